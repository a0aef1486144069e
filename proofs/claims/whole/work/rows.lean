section
-- ===== PART A: goes FIRST, ahead of the names: the tables' words, and 'selects' of the private methods out of them =====
/-- a private method of a class that the tables say can be made, by its rows of tables_1 -/
def lw_okq (q : MethodName × Nat) : Prop := (q.1.cls ≠ "java/lang/invoke/MethodHandle" ∧ q.1.cls ≠ "java/lang/invoke/VarHandle") ∧ Cond.instantiable q.1.cls q.2 ∈ tables_1 ∧ Cond.privateMethod q.1 ∈ tables_1 ∧ Cond.instanceMethod q.1 ∈ tables_1
theorem lw_p0 : lw_okq (⟨"HatDownTheStreet$Reader", "partTokens", "()V"⟩, 9) := ⟨⟨by decide +kernel, by decide +kernel⟩, List.mem_of_getElem? (i := 123) (by decide +kernel), List.mem_of_getElem? (i := 338) (by decide +kernel), List.mem_of_getElem? (i := 339) (by decide +kernel)⟩
theorem lw_p1 : lw_okq (⟨"HatDownTheStreet$Reader", "behindBlanks", "(I)I"⟩, 9) := ⟨⟨by decide +kernel, by decide +kernel⟩, List.mem_of_getElem? (i := 123) (by decide +kernel), List.mem_of_getElem? (i := 342) (by decide +kernel), List.mem_of_getElem? (i := 343) (by decide +kernel)⟩
theorem lw_p2 : lw_okq (⟨"HatDownTheStreet$Reader", "byteAt", "(I)I"⟩, 9) := ⟨⟨by decide +kernel, by decide +kernel⟩, List.mem_of_getElem? (i := 123) (by decide +kernel), List.mem_of_getElem? (i := 346) (by decide +kernel), List.mem_of_getElem? (i := 347) (by decide +kernel)⟩
theorem lw_p3 : lw_okq (⟨"HatDownTheStreet$Reader", "tokenEnd", "(I)I"⟩, 9) := ⟨⟨by decide +kernel, by decide +kernel⟩, List.mem_of_getElem? (i := 123) (by decide +kernel), List.mem_of_getElem? (i := 350) (by decide +kernel), List.mem_of_getElem? (i := 351) (by decide +kernel)⟩
theorem lw_p4 : lw_okq (⟨"HatDownTheStreet$Reader", "tokenBetween", "(II)I"⟩, 9) := ⟨⟨by decide +kernel, by decide +kernel⟩, List.mem_of_getElem? (i := 123) (by decide +kernel), List.mem_of_getElem? (i := 363) (by decide +kernel), List.mem_of_getElem? (i := 364) (by decide +kernel)⟩
theorem lw_p5 : lw_okq (⟨"HatDownTheStreet$Reader", "nameBetween", "(II)I"⟩, 9) := ⟨⟨by decide +kernel, by decide +kernel⟩, List.mem_of_getElem? (i := 123) (by decide +kernel), List.mem_of_getElem? (i := 367) (by decide +kernel), List.mem_of_getElem? (i := 368) (by decide +kernel)⟩
theorem lw_p6 : lw_okq (⟨"HatDownTheStreet$Reader", "isWord", "(Ljava/lang/String;II)Z"⟩, 9) := ⟨⟨by decide +kernel, by decide +kernel⟩, List.mem_of_getElem? (i := 123) (by decide +kernel), List.mem_of_getElem? (i := 372) (by decide +kernel), List.mem_of_getElem? (i := 373) (by decide +kernel)⟩
theorem lw_p7 : lw_okq (⟨"HatDownTheStreet$Reader", "keyBetween", "(II)I"⟩, 9) := ⟨⟨by decide +kernel, by decide +kernel⟩, List.mem_of_getElem? (i := 123) (by decide +kernel), List.mem_of_getElem? (i := 383) (by decide +kernel), List.mem_of_getElem? (i := 384) (by decide +kernel)⟩
theorem lw_p8 : lw_okq (⟨"HatDownTheStreet$Reader", "valueOf", "(III)I"⟩, 9) := ⟨⟨by decide +kernel, by decide +kernel⟩, List.mem_of_getElem? (i := 123) (by decide +kernel), List.mem_of_getElem? (i := 396) (by decide +kernel), List.mem_of_getElem? (i := 397) (by decide +kernel)⟩
theorem lw_p9 : lw_okq (⟨"HatDownTheStreet$Reader", "readPart", "(II)V"⟩, 9) := ⟨⟨by decide +kernel, by decide +kernel⟩, List.mem_of_getElem? (i := 123) (by decide +kernel), List.mem_of_getElem? (i := 404) (by decide +kernel), List.mem_of_getElem? (i := 405) (by decide +kernel)⟩
theorem lw_p10 : lw_okq (⟨"HatDownTheStreet$Reader", "expect", "(I)V"⟩, 9) := ⟨⟨by decide +kernel, by decide +kernel⟩, List.mem_of_getElem? (i := 123) (by decide +kernel), List.mem_of_getElem? (i := 408) (by decide +kernel), List.mem_of_getElem? (i := 409) (by decide +kernel)⟩
theorem lw_p11 : lw_okq (⟨"HatDownTheStreet$Reader", "advance", "()V"⟩, 9) := ⟨⟨by decide +kernel, by decide +kernel⟩, List.mem_of_getElem? (i := 123) (by decide +kernel), List.mem_of_getElem? (i := 412) (by decide +kernel), List.mem_of_getElem? (i := 413) (by decide +kernel)⟩
theorem lw_p12 : lw_okq (⟨"HatDownTheStreet$Reader", "refuse", "()V"⟩, 9) := ⟨⟨by decide +kernel, by decide +kernel⟩, List.mem_of_getElem? (i := 123) (by decide +kernel), List.mem_of_getElem? (i := 416) (by decide +kernel), List.mem_of_getElem? (i := 417) (by decide +kernel)⟩
theorem lw_p13 : lw_okq (⟨"HatDownTheStreet$Reader", "readOr", "(I)V"⟩, 9) := ⟨⟨by decide +kernel, by decide +kernel⟩, List.mem_of_getElem? (i := 123) (by decide +kernel), List.mem_of_getElem? (i := 420) (by decide +kernel), List.mem_of_getElem? (i := 421) (by decide +kernel)⟩
theorem lw_p14 : lw_okq (⟨"HatDownTheStreet$Reader", "readAnd", "(I)V"⟩, 9) := ⟨⟨by decide +kernel, by decide +kernel⟩, List.mem_of_getElem? (i := 123) (by decide +kernel), List.mem_of_getElem? (i := 424) (by decide +kernel), List.mem_of_getElem? (i := 425) (by decide +kernel)⟩
theorem lw_p15 : lw_okq (⟨"HatDownTheStreet$Reader", "readNot", "(I)V"⟩, 9) := ⟨⟨by decide +kernel, by decide +kernel⟩, List.mem_of_getElem? (i := 123) (by decide +kernel), List.mem_of_getElem? (i := 428) (by decide +kernel), List.mem_of_getElem? (i := 429) (by decide +kernel)⟩
def lw_privs_1 : List (MethodName × Nat) := [(⟨"HatDownTheStreet$Reader", "partTokens", "()V"⟩, 9), (⟨"HatDownTheStreet$Reader", "behindBlanks", "(I)I"⟩, 9), (⟨"HatDownTheStreet$Reader", "byteAt", "(I)I"⟩, 9), (⟨"HatDownTheStreet$Reader", "tokenEnd", "(I)I"⟩, 9), (⟨"HatDownTheStreet$Reader", "tokenBetween", "(II)I"⟩, 9), (⟨"HatDownTheStreet$Reader", "nameBetween", "(II)I"⟩, 9), (⟨"HatDownTheStreet$Reader", "isWord", "(Ljava/lang/String;II)Z"⟩, 9), (⟨"HatDownTheStreet$Reader", "keyBetween", "(II)I"⟩, 9), (⟨"HatDownTheStreet$Reader", "valueOf", "(III)I"⟩, 9), (⟨"HatDownTheStreet$Reader", "readPart", "(II)V"⟩, 9), (⟨"HatDownTheStreet$Reader", "expect", "(I)V"⟩, 9), (⟨"HatDownTheStreet$Reader", "advance", "()V"⟩, 9), (⟨"HatDownTheStreet$Reader", "refuse", "()V"⟩, 9), (⟨"HatDownTheStreet$Reader", "readOr", "(I)V"⟩, 9), (⟨"HatDownTheStreet$Reader", "readAnd", "(I)V"⟩, 9), (⟨"HatDownTheStreet$Reader", "readNot", "(I)V"⟩, 9)]
theorem lw_r1 : ∀ q ∈ lw_privs_1, lw_okq q := List.forall_mem_cons.mpr ⟨lw_p0, List.forall_mem_cons.mpr ⟨lw_p1, List.forall_mem_cons.mpr ⟨lw_p2, List.forall_mem_cons.mpr ⟨lw_p3, List.forall_mem_cons.mpr ⟨lw_p4, List.forall_mem_cons.mpr ⟨lw_p5, List.forall_mem_cons.mpr ⟨lw_p6, List.forall_mem_cons.mpr ⟨lw_p7, List.forall_mem_cons.mpr ⟨lw_p8, List.forall_mem_cons.mpr ⟨lw_p9, List.forall_mem_cons.mpr ⟨lw_p10, List.forall_mem_cons.mpr ⟨lw_p11, List.forall_mem_cons.mpr ⟨lw_p12, List.forall_mem_cons.mpr ⟨lw_p13, List.forall_mem_cons.mpr ⟨lw_p14, List.forall_mem_cons.mpr ⟨lw_p15, fun _ h => absurd h List.not_mem_nil⟩⟩⟩⟩⟩⟩⟩⟩⟩⟩⟩⟩⟩⟩⟩⟩
theorem lw_p16 : lw_okq (⟨"HatDownTheStreet$Reader", "readSum", "(I)V"⟩, 9) := ⟨⟨by decide +kernel, by decide +kernel⟩, List.mem_of_getElem? (i := 123) (by decide +kernel), List.mem_of_getElem? (i := 436) (by decide +kernel), List.mem_of_getElem? (i := 437) (by decide +kernel)⟩
theorem lw_p17 : lw_okq (⟨"HatDownTheStreet$Reader", "readTerm", "(I)V"⟩, 9) := ⟨⟨by decide +kernel, by decide +kernel⟩, List.mem_of_getElem? (i := 123) (by decide +kernel), List.mem_of_getElem? (i := 440) (by decide +kernel), List.mem_of_getElem? (i := 441) (by decide +kernel)⟩
theorem lw_p18 : lw_okq (⟨"HatDownTheStreet$Reader", "readOne", "(I)V"⟩, 9) := ⟨⟨by decide +kernel, by decide +kernel⟩, List.mem_of_getElem? (i := 123) (by decide +kernel), List.mem_of_getElem? (i := 444) (by decide +kernel), List.mem_of_getElem? (i := 445) (by decide +kernel)⟩
theorem lw_p19 : lw_okq (⟨"HatDownTheStreet", "isOpen", "(I)Z"⟩, 10) := ⟨⟨by decide +kernel, by decide +kernel⟩, List.mem_of_getElem? (i := 19) (by decide +kernel), List.mem_of_getElem? (i := 582) (by decide +kernel), List.mem_of_getElem? (i := 583) (by decide +kernel)⟩
theorem lw_p20 : lw_okq (⟨"HatDownTheStreet", "isHat", "(I)Z"⟩, 10) := ⟨⟨by decide +kernel, by decide +kernel⟩, List.mem_of_getElem? (i := 19) (by decide +kernel), List.mem_of_getElem? (i := 593) (by decide +kernel), List.mem_of_getElem? (i := 594) (by decide +kernel)⟩
theorem lw_p21 : lw_okq (⟨"HatDownTheStreet", "isCatcher", "(I)Z"⟩, 10) := ⟨⟨by decide +kernel, by decide +kernel⟩, List.mem_of_getElem? (i := 19) (by decide +kernel), List.mem_of_getElem? (i := 617) (by decide +kernel), List.mem_of_getElem? (i := 618) (by decide +kernel)⟩
theorem lw_p22 : lw_okq (⟨"HatDownTheStreet", "think", "(I)V"⟩, 10) := ⟨⟨by decide +kernel, by decide +kernel⟩, List.mem_of_getElem? (i := 19) (by decide +kernel), List.mem_of_getElem? (i := 628) (by decide +kernel), List.mem_of_getElem? (i := 629) (by decide +kernel)⟩
theorem lw_p23 : lw_okq (⟨"HatDownTheStreet$Thought", "next", "(II)I"⟩, 11) := ⟨⟨by decide +kernel, by decide +kernel⟩, List.mem_of_getElem? (i := 179) (by decide +kernel), List.mem_of_getElem? (i := 643) (by decide +kernel), List.mem_of_getElem? (i := 644) (by decide +kernel)⟩
theorem lw_p24 : lw_okq (⟨"HatDownTheStreet$Thought", "slide", "(III)I"⟩, 11) := ⟨⟨by decide +kernel, by decide +kernel⟩, List.mem_of_getElem? (i := 179) (by decide +kernel), List.mem_of_getElem? (i := 670) (by decide +kernel), List.mem_of_getElem? (i := 671) (by decide +kernel)⟩
theorem lw_p25 : lw_okq (⟨"HatDownTheStreet$Thought", "beside", "(II)I"⟩, 11) := ⟨⟨by decide +kernel, by decide +kernel⟩, List.mem_of_getElem? (i := 179) (by decide +kernel), List.mem_of_getElem? (i := 674) (by decide +kernel), List.mem_of_getElem? (i := 675) (by decide +kernel)⟩
theorem lw_p26 : lw_okq (⟨"HatDownTheStreet", "letPass", "(I)V"⟩, 10) := ⟨⟨by decide +kernel, by decide +kernel⟩, List.mem_of_getElem? (i := 19) (by decide +kernel), List.mem_of_getElem? (i := 692) (by decide +kernel), List.mem_of_getElem? (i := 693) (by decide +kernel)⟩
theorem lw_p27 : lw_okq (⟨"HatDownTheStreet", "hadNow", "(II)I"⟩, 10) := ⟨⟨by decide +kernel, by decide +kernel⟩, List.mem_of_getElem? (i := 19) (by decide +kernel), List.mem_of_getElem? (i := 733) (by decide +kernel), List.mem_of_getElem? (i := 734) (by decide +kernel)⟩
theorem lw_p28 : lw_okq (⟨"HatDownTheStreet$Thought", "spread", "(II)I"⟩, 11) := ⟨⟨by decide +kernel, by decide +kernel⟩, List.mem_of_getElem? (i := 179) (by decide +kernel), List.mem_of_getElem? (i := 745) (by decide +kernel), List.mem_of_getElem? (i := 746) (by decide +kernel)⟩
theorem lw_p29 : lw_okq (⟨"HatDownTheStreet", "refusalOfPair", "(III)I"⟩, 10) := ⟨⟨by decide +kernel, by decide +kernel⟩, List.mem_of_getElem? (i := 19) (by decide +kernel), List.mem_of_getElem? (i := 763) (by decide +kernel), List.mem_of_getElem? (i := 764) (by decide +kernel)⟩
theorem lw_p30 : lw_okq (⟨"HatDownTheStreet$Errand", "fetch", "(LHatDownTheStreet$Thought;IIII)V"⟩, 6) := ⟨⟨by decide +kernel, by decide +kernel⟩, List.mem_of_getElem? (i := 230) (by decide +kernel), List.mem_of_getElem? (i := 783) (by decide +kernel), List.mem_of_getElem? (i := 784) (by decide +kernel)⟩
theorem lw_p31 : lw_okq (⟨"HatDownTheStreet", "worthHad", "(II)I"⟩, 10) := ⟨⟨by decide +kernel, by decide +kernel⟩, List.mem_of_getElem? (i := 19) (by decide +kernel), List.mem_of_getElem? (i := 794) (by decide +kernel), List.mem_of_getElem? (i := 795) (by decide +kernel)⟩
def lw_privs_2 : List (MethodName × Nat) := [(⟨"HatDownTheStreet$Reader", "readSum", "(I)V"⟩, 9), (⟨"HatDownTheStreet$Reader", "readTerm", "(I)V"⟩, 9), (⟨"HatDownTheStreet$Reader", "readOne", "(I)V"⟩, 9), (⟨"HatDownTheStreet", "isOpen", "(I)Z"⟩, 10), (⟨"HatDownTheStreet", "isHat", "(I)Z"⟩, 10), (⟨"HatDownTheStreet", "isCatcher", "(I)Z"⟩, 10), (⟨"HatDownTheStreet", "think", "(I)V"⟩, 10), (⟨"HatDownTheStreet$Thought", "next", "(II)I"⟩, 11), (⟨"HatDownTheStreet$Thought", "slide", "(III)I"⟩, 11), (⟨"HatDownTheStreet$Thought", "beside", "(II)I"⟩, 11), (⟨"HatDownTheStreet", "letPass", "(I)V"⟩, 10), (⟨"HatDownTheStreet", "hadNow", "(II)I"⟩, 10), (⟨"HatDownTheStreet$Thought", "spread", "(II)I"⟩, 11), (⟨"HatDownTheStreet", "refusalOfPair", "(III)I"⟩, 10), (⟨"HatDownTheStreet$Errand", "fetch", "(LHatDownTheStreet$Thought;IIII)V"⟩, 6), (⟨"HatDownTheStreet", "worthHad", "(II)I"⟩, 10)]
theorem lw_r2 : ∀ q ∈ lw_privs_2, lw_okq q := List.forall_mem_cons.mpr ⟨lw_p16, List.forall_mem_cons.mpr ⟨lw_p17, List.forall_mem_cons.mpr ⟨lw_p18, List.forall_mem_cons.mpr ⟨lw_p19, List.forall_mem_cons.mpr ⟨lw_p20, List.forall_mem_cons.mpr ⟨lw_p21, List.forall_mem_cons.mpr ⟨lw_p22, List.forall_mem_cons.mpr ⟨lw_p23, List.forall_mem_cons.mpr ⟨lw_p24, List.forall_mem_cons.mpr ⟨lw_p25, List.forall_mem_cons.mpr ⟨lw_p26, List.forall_mem_cons.mpr ⟨lw_p27, List.forall_mem_cons.mpr ⟨lw_p28, List.forall_mem_cons.mpr ⟨lw_p29, List.forall_mem_cons.mpr ⟨lw_p30, List.forall_mem_cons.mpr ⟨lw_p31, fun _ h => absurd h List.not_mem_nil⟩⟩⟩⟩⟩⟩⟩⟩⟩⟩⟩⟩⟩⟩⟩⟩
theorem lw_p32 : lw_okq (⟨"HatDownTheStreet", "refusalOfWay", "(II)I"⟩, 10) := ⟨⟨by decide +kernel, by decide +kernel⟩, List.mem_of_getElem? (i := 19) (by decide +kernel), List.mem_of_getElem? (i := 840) (by decide +kernel), List.mem_of_getElem? (i := 841) (by decide +kernel)⟩
theorem lw_p33 : lw_okq (⟨"HatDownTheStreet", "refusalOfTold", "(I)I"⟩, 10) := ⟨⟨by decide +kernel, by decide +kernel⟩, List.mem_of_getElem? (i := 19) (by decide +kernel), List.mem_of_getElem? (i := 844) (by decide +kernel), List.mem_of_getElem? (i := 845) (by decide +kernel)⟩
theorem lw_p34 : lw_okq (⟨"HatDownTheStreetModel", "next", "()V"⟩, 45) := ⟨⟨by decide +kernel, by decide +kernel⟩, List.mem_of_getElem? (i := 950) (by decide +kernel), List.mem_of_getElem? (i := 960) (by decide +kernel), List.mem_of_getElem? (i := 961) (by decide +kernel)⟩
theorem lw_p35 : lw_okq (⟨"HatDownTheStreetModel", "wordFrom", "(II)I"⟩, 45) := ⟨⟨by decide +kernel, by decide +kernel⟩, List.mem_of_getElem? (i := 950) (by decide +kernel), List.mem_of_getElem? (i := 967) (by decide +kernel), List.mem_of_getElem? (i := 968) (by decide +kernel)⟩
theorem lw_p36 : lw_okq (⟨"HatDownTheStreetModel", "eRead", "()Z"⟩, 45) := ⟨⟨by decide +kernel, by decide +kernel⟩, List.mem_of_getElem? (i := 950) (by decide +kernel), List.mem_of_getElem? (i := 971) (by decide +kernel), List.mem_of_getElem? (i := 972) (by decide +kernel)⟩
theorem lw_p37 : lw_okq (⟨"HatDownTheStreetModel", "puts", "(I)V"⟩, 45) := ⟨⟨by decide +kernel, by decide +kernel⟩, List.mem_of_getElem? (i := 950) (by decide +kernel), List.mem_of_getElem? (i := 976) (by decide +kernel), List.mem_of_getElem? (i := 977) (by decide +kernel)⟩
theorem lw_p38 : lw_okq (⟨"HatDownTheStreetModel", "unwinds", "(I)V"⟩, 45) := ⟨⟨by decide +kernel, by decide +kernel⟩, List.mem_of_getElem? (i := 950) (by decide +kernel), List.mem_of_getElem? (i := 980) (by decide +kernel), List.mem_of_getElem? (i := 981) (by decide +kernel)⟩
theorem lw_p39 : lw_okq (⟨"HatDownTheStreetModel", "opensOne", "(I)Z"⟩, 45) := ⟨⟨by decide +kernel, by decide +kernel⟩, List.mem_of_getElem? (i := 950) (by decide +kernel), List.mem_of_getElem? (i := 987) (by decide +kernel), List.mem_of_getElem? (i := 988) (by decide +kernel)⟩
theorem lw_p40 : lw_okq (⟨"HatDownTheStreetModel", "holds", "(I)V"⟩, 45) := ⟨⟨by decide +kernel, by decide +kernel⟩, List.mem_of_getElem? (i := 950) (by decide +kernel), List.mem_of_getElem? (i := 991) (by decide +kernel), List.mem_of_getElem? (i := 992) (by decide +kernel)⟩
theorem lw_p41 : lw_okq (⟨"HatDownTheStreetModel", "signOf", "()I"⟩, 45) := ⟨⟨by decide +kernel, by decide +kernel⟩, List.mem_of_getElem? (i := 950) (by decide +kernel), List.mem_of_getElem? (i := 995) (by decide +kernel), List.mem_of_getElem? (i := 996) (by decide +kernel)⟩
theorem lw_p42 : lw_okq (⟨"HatDownTheStreetModel", "between", "(I)Z"⟩, 45) := ⟨⟨by decide +kernel, by decide +kernel⟩, List.mem_of_getElem? (i := 950) (by decide +kernel), List.mem_of_getElem? (i := 999) (by decide +kernel), List.mem_of_getElem? (i := 1000) (by decide +kernel)⟩
theorem lw_p43 : lw_okq (⟨"HatDownTheStreetModel", "isAnyIn", "(I)Z"⟩, 45) := ⟨⟨by decide +kernel, by decide +kernel⟩, List.mem_of_getElem? (i := 950) (by decide +kernel), List.mem_of_getElem? (i := 1146) (by decide +kernel), List.mem_of_getElem? (i := 1147) (by decide +kernel)⟩
theorem lw_p44 : lw_okq (⟨"HatDownTheStreetModel", "has", "(II)Z"⟩, 45) := ⟨⟨by decide +kernel, by decide +kernel⟩, List.mem_of_getElem? (i := 950) (by decide +kernel), List.mem_of_getElem? (i := 1150) (by decide +kernel), List.mem_of_getElem? (i := 1151) (by decide +kernel)⟩
theorem lw_p45 : lw_okq (⟨"HatDownTheStreetModel", "asksOf", "(IIIIIII)I"⟩, 45) := ⟨⟨by decide +kernel, by decide +kernel⟩, List.mem_of_getElem? (i := 950) (by decide +kernel), List.mem_of_getElem? (i := 1185) (by decide +kernel), List.mem_of_getElem? (i := 1186) (by decide +kernel)⟩
theorem lw_p46 : lw_okq (⟨"HatDownTheStreetModel", "says", "(I)I"⟩, 45) := ⟨⟨by decide +kernel, by decide +kernel⟩, List.mem_of_getElem? (i := 950) (by decide +kernel), List.mem_of_getElem? (i := 1189) (by decide +kernel), List.mem_of_getElem? (i := 1190) (by decide +kernel)⟩
theorem lw_p47 : lw_okq (⟨"HatDownTheStreetModel", "isFree", "(I)Z"⟩, 45) := ⟨⟨by decide +kernel, by decide +kernel⟩, List.mem_of_getElem? (i := 950) (by decide +kernel), List.mem_of_getElem? (i := 1203) (by decide +kernel), List.mem_of_getElem? (i := 1204) (by decide +kernel)⟩
def lw_privs_3 : List (MethodName × Nat) := [(⟨"HatDownTheStreet", "refusalOfWay", "(II)I"⟩, 10), (⟨"HatDownTheStreet", "refusalOfTold", "(I)I"⟩, 10), (⟨"HatDownTheStreetModel", "next", "()V"⟩, 45), (⟨"HatDownTheStreetModel", "wordFrom", "(II)I"⟩, 45), (⟨"HatDownTheStreetModel", "eRead", "()Z"⟩, 45), (⟨"HatDownTheStreetModel", "puts", "(I)V"⟩, 45), (⟨"HatDownTheStreetModel", "unwinds", "(I)V"⟩, 45), (⟨"HatDownTheStreetModel", "opensOne", "(I)Z"⟩, 45), (⟨"HatDownTheStreetModel", "holds", "(I)V"⟩, 45), (⟨"HatDownTheStreetModel", "signOf", "()I"⟩, 45), (⟨"HatDownTheStreetModel", "between", "(I)Z"⟩, 45), (⟨"HatDownTheStreetModel", "isAnyIn", "(I)Z"⟩, 45), (⟨"HatDownTheStreetModel", "has", "(II)Z"⟩, 45), (⟨"HatDownTheStreetModel", "asksOf", "(IIIIIII)I"⟩, 45), (⟨"HatDownTheStreetModel", "says", "(I)I"⟩, 45), (⟨"HatDownTheStreetModel", "isFree", "(I)Z"⟩, 45)]
theorem lw_r3 : ∀ q ∈ lw_privs_3, lw_okq q := List.forall_mem_cons.mpr ⟨lw_p32, List.forall_mem_cons.mpr ⟨lw_p33, List.forall_mem_cons.mpr ⟨lw_p34, List.forall_mem_cons.mpr ⟨lw_p35, List.forall_mem_cons.mpr ⟨lw_p36, List.forall_mem_cons.mpr ⟨lw_p37, List.forall_mem_cons.mpr ⟨lw_p38, List.forall_mem_cons.mpr ⟨lw_p39, List.forall_mem_cons.mpr ⟨lw_p40, List.forall_mem_cons.mpr ⟨lw_p41, List.forall_mem_cons.mpr ⟨lw_p42, List.forall_mem_cons.mpr ⟨lw_p43, List.forall_mem_cons.mpr ⟨lw_p44, List.forall_mem_cons.mpr ⟨lw_p45, List.forall_mem_cons.mpr ⟨lw_p46, List.forall_mem_cons.mpr ⟨lw_p47, fun _ h => absurd h List.not_mem_nil⟩⟩⟩⟩⟩⟩⟩⟩⟩⟩⟩⟩⟩⟩⟩⟩
theorem lw_p48 : lw_okq (⟨"HatDownTheStreetModel", "isHat", "(I)Z"⟩, 45) := ⟨⟨by decide +kernel, by decide +kernel⟩, List.mem_of_getElem? (i := 950) (by decide +kernel), List.mem_of_getElem? (i := 1211) (by decide +kernel), List.mem_of_getElem? (i := 1212) (by decide +kernel)⟩
theorem lw_p49 : lw_okq (⟨"HatDownTheStreetModel", "isCatcher", "(I)Z"⟩, 45) := ⟨⟨by decide +kernel, by decide +kernel⟩, List.mem_of_getElem? (i := 950) (by decide +kernel), List.mem_of_getElem? (i := 1227) (by decide +kernel), List.mem_of_getElem? (i := 1228) (by decide +kernel)⟩
theorem lw_p50 : lw_okq (⟨"HatDownTheStreetModel", "squareBehind", "(II)I"⟩, 45) := ⟨⟨by decide +kernel, by decide +kernel⟩, List.mem_of_getElem? (i := 950) (by decide +kernel), List.mem_of_getElem? (i := 1235) (by decide +kernel), List.mem_of_getElem? (i := 1236) (by decide +kernel)⟩
theorem lw_p51 : lw_okq (⟨"HatDownTheStreetModel", "begins", "(I)V"⟩, 45) := ⟨⟨by decide +kernel, by decide +kernel⟩, List.mem_of_getElem? (i := 950) (by decide +kernel), List.mem_of_getElem? (i := 1239) (by decide +kernel), List.mem_of_getElem? (i := 1240) (by decide +kernel)⟩
theorem lw_p52 : lw_okq (⟨"HatDownTheStreetModel", "goesOn", "(II)V"⟩, 45) := ⟨⟨by decide +kernel, by decide +kernel⟩, List.mem_of_getElem? (i := 950) (by decide +kernel), List.mem_of_getElem? (i := 1243) (by decide +kernel), List.mem_of_getElem? (i := 1244) (by decide +kernel)⟩
theorem lw_p53 : lw_okq (⟨"HatDownTheStreetModel", "seconds", "(II)V"⟩, 45) := ⟨⟨by decide +kernel, by decide +kernel⟩, List.mem_of_getElem? (i := 950) (by decide +kernel), List.mem_of_getElem? (i := 1247) (by decide +kernel), List.mem_of_getElem? (i := 1248) (by decide +kernel)⟩
theorem lw_p54 : lw_okq (⟨"HatDownTheStreetModel", "goesBy", "(II)I"⟩, 45) := ⟨⟨by decide +kernel, by decide +kernel⟩, List.mem_of_getElem? (i := 950) (by decide +kernel), List.mem_of_getElem? (i := 1251) (by decide +kernel), List.mem_of_getElem? (i := 1252) (by decide +kernel)⟩
theorem lw_p55 : lw_okq (⟨"HatDownTheStreetModel", "wayIn", "(II)I"⟩, 45) := ⟨⟨by decide +kernel, by decide +kernel⟩, List.mem_of_getElem? (i := 950) (by decide +kernel), List.mem_of_getElem? (i := 1255) (by decide +kernel), List.mem_of_getElem? (i := 1256) (by decide +kernel)⟩
theorem lw_p56 : lw_okq (⟨"HatDownTheStreetModel", "beside", "(II)I"⟩, 45) := ⟨⟨by decide +kernel, by decide +kernel⟩, List.mem_of_getElem? (i := 950) (by decide +kernel), List.mem_of_getElem? (i := 1259) (by decide +kernel), List.mem_of_getElem? (i := 1260) (by decide +kernel)⟩
theorem lw_p57 : lw_okq (⟨"HatDownTheStreetModel", "passes", "(I)V"⟩, 45) := ⟨⟨by decide +kernel, by decide +kernel⟩, List.mem_of_getElem? (i := 950) (by decide +kernel), List.mem_of_getElem? (i := 1270) (by decide +kernel), List.mem_of_getElem? (i := 1271) (by decide +kernel)⟩
theorem lw_p58 : lw_okq (⟨"HatDownTheStreetModel", "comesFromAll", "(II)V"⟩, 45) := ⟨⟨by decide +kernel, by decide +kernel⟩, List.mem_of_getElem? (i := 950) (by decide +kernel), List.mem_of_getElem? (i := 1294) (by decide +kernel), List.mem_of_getElem? (i := 1295) (by decide +kernel)⟩
theorem lw_p59 : lw_okq (⟨"HatDownTheStreetModel", "areThere", "(II)Z"⟩, 45) := ⟨⟨by decide +kernel, by decide +kernel⟩, List.mem_of_getElem? (i := 950) (by decide +kernel), List.mem_of_getElem? (i := 1306) (by decide +kernel), List.mem_of_getElem? (i := 1307) (by decide +kernel)⟩
theorem lw_p60 : lw_okq (⟨"HatDownTheStreetModel", "hadBy", "(II)I"⟩, 45) := ⟨⟨by decide +kernel, by decide +kernel⟩, List.mem_of_getElem? (i := 950) (by decide +kernel), List.mem_of_getElem? (i := 1310) (by decide +kernel), List.mem_of_getElem? (i := 1311) (by decide +kernel)⟩
theorem lw_p61 : lw_okq (⟨"HatDownTheStreetModel", "had", "(IIIII)I"⟩, 45) := ⟨⟨by decide +kernel, by decide +kernel⟩, List.mem_of_getElem? (i := 950) (by decide +kernel), List.mem_of_getElem? (i := 1314) (by decide +kernel), List.mem_of_getElem? (i := 1315) (by decide +kernel)⟩
theorem lw_p62 : lw_okq (⟨"HatDownTheStreetModel", "spreads", "(I)V"⟩, 45) := ⟨⟨by decide +kernel, by decide +kernel⟩, List.mem_of_getElem? (i := 950) (by decide +kernel), List.mem_of_getElem? (i := 1318) (by decide +kernel), List.mem_of_getElem? (i := 1319) (by decide +kernel)⟩
theorem lw_p63 : lw_okq (⟨"HatDownTheStreetModel", "lastBy", "(II)I"⟩, 45) := ⟨⟨by decide +kernel, by decide +kernel⟩, List.mem_of_getElem? (i := 950) (by decide +kernel), List.mem_of_getElem? (i := 1345) (by decide +kernel), List.mem_of_getElem? (i := 1346) (by decide +kernel)⟩
def lw_privs_4 : List (MethodName × Nat) := [(⟨"HatDownTheStreetModel", "isHat", "(I)Z"⟩, 45), (⟨"HatDownTheStreetModel", "isCatcher", "(I)Z"⟩, 45), (⟨"HatDownTheStreetModel", "squareBehind", "(II)I"⟩, 45), (⟨"HatDownTheStreetModel", "begins", "(I)V"⟩, 45), (⟨"HatDownTheStreetModel", "goesOn", "(II)V"⟩, 45), (⟨"HatDownTheStreetModel", "seconds", "(II)V"⟩, 45), (⟨"HatDownTheStreetModel", "goesBy", "(II)I"⟩, 45), (⟨"HatDownTheStreetModel", "wayIn", "(II)I"⟩, 45), (⟨"HatDownTheStreetModel", "beside", "(II)I"⟩, 45), (⟨"HatDownTheStreetModel", "passes", "(I)V"⟩, 45), (⟨"HatDownTheStreetModel", "comesFromAll", "(II)V"⟩, 45), (⟨"HatDownTheStreetModel", "areThere", "(II)Z"⟩, 45), (⟨"HatDownTheStreetModel", "hadBy", "(II)I"⟩, 45), (⟨"HatDownTheStreetModel", "had", "(IIIII)I"⟩, 45), (⟨"HatDownTheStreetModel", "spreads", "(I)V"⟩, 45), (⟨"HatDownTheStreetModel", "lastBy", "(II)I"⟩, 45)]
theorem lw_r4 : ∀ q ∈ lw_privs_4, lw_okq q := List.forall_mem_cons.mpr ⟨lw_p48, List.forall_mem_cons.mpr ⟨lw_p49, List.forall_mem_cons.mpr ⟨lw_p50, List.forall_mem_cons.mpr ⟨lw_p51, List.forall_mem_cons.mpr ⟨lw_p52, List.forall_mem_cons.mpr ⟨lw_p53, List.forall_mem_cons.mpr ⟨lw_p54, List.forall_mem_cons.mpr ⟨lw_p55, List.forall_mem_cons.mpr ⟨lw_p56, List.forall_mem_cons.mpr ⟨lw_p57, List.forall_mem_cons.mpr ⟨lw_p58, List.forall_mem_cons.mpr ⟨lw_p59, List.forall_mem_cons.mpr ⟨lw_p60, List.forall_mem_cons.mpr ⟨lw_p61, List.forall_mem_cons.mpr ⟨lw_p62, List.forall_mem_cons.mpr ⟨lw_p63, fun _ h => absurd h List.not_mem_nil⟩⟩⟩⟩⟩⟩⟩⟩⟩⟩⟩⟩⟩⟩⟩⟩
theorem lw_p64 : lw_okq (⟨"HatDownTheStreetModel", "gainOf", "(II)I"⟩, 45) := ⟨⟨by decide +kernel, by decide +kernel⟩, List.mem_of_getElem? (i := 950) (by decide +kernel), List.mem_of_getElem? (i := 1353) (by decide +kernel), List.mem_of_getElem? (i := 1354) (by decide +kernel)⟩
theorem lw_p65 : lw_okq (⟨"HatDownTheStreetModel", "squareHeld", "(IIII)I"⟩, 45) := ⟨⟨by decide +kernel, by decide +kernel⟩, List.mem_of_getElem? (i := 950) (by decide +kernel), List.mem_of_getElem? (i := 1369) (by decide +kernel), List.mem_of_getElem? (i := 1370) (by decide +kernel)⟩
theorem lw_p66 : lw_okq (⟨"HatDownTheStreetModel", "toldWrong", "(II)I"⟩, 45) := ⟨⟨by decide +kernel, by decide +kernel⟩, List.mem_of_getElem? (i := 950) (by decide +kernel), List.mem_of_getElem? (i := 1396) (by decide +kernel), List.mem_of_getElem? (i := 1397) (by decide +kernel)⟩
theorem lw_p67 : lw_okq (⟨"HatDownTheStreetModel", "sheetWrong", "(I)I"⟩, 45) := ⟨⟨by decide +kernel, by decide +kernel⟩, List.mem_of_getElem? (i := 950) (by decide +kernel), List.mem_of_getElem? (i := 1400) (by decide +kernel), List.mem_of_getElem? (i := 1401) (by decide +kernel)⟩
theorem lw_p68 : lw_okq (⟨"HatDownTheStreetModel", "unlikeNow", "(II)I"⟩, 45) := ⟨⟨by decide +kernel, by decide +kernel⟩, List.mem_of_getElem? (i := 950) (by decide +kernel), List.mem_of_getElem? (i := 1404) (by decide +kernel), List.mem_of_getElem? (i := 1405) (by decide +kernel)⟩
theorem lw_p69 : lw_okq (⟨"HatDownTheStreetModel", "unlike", "(II)I"⟩, 45) := ⟨⟨by decide +kernel, by decide +kernel⟩, List.mem_of_getElem? (i := 950) (by decide +kernel), List.mem_of_getElem? (i := 1408) (by decide +kernel), List.mem_of_getElem? (i := 1409) (by decide +kernel)⟩
theorem lw_p70 : lw_okq (⟨"HatDownTheStreetModel", "blowsBy", "(I)V"⟩, 45) := ⟨⟨by decide +kernel, by decide +kernel⟩, List.mem_of_getElem? (i := 950) (by decide +kernel), List.mem_of_getElem? (i := 1437) (by decide +kernel), List.mem_of_getElem? (i := 1438) (by decide +kernel)⟩
theorem lw_p71 : lw_okq (⟨"HatDownTheStreetModel", "laysGusts", "()V"⟩, 45) := ⟨⟨by decide +kernel, by decide +kernel⟩, List.mem_of_getElem? (i := 950) (by decide +kernel), List.mem_of_getElem? (i := 1445) (by decide +kernel), List.mem_of_getElem? (i := 1446) (by decide +kernel)⟩
def lw_privs_5 : List (MethodName × Nat) := [(⟨"HatDownTheStreetModel", "gainOf", "(II)I"⟩, 45), (⟨"HatDownTheStreetModel", "squareHeld", "(IIII)I"⟩, 45), (⟨"HatDownTheStreetModel", "toldWrong", "(II)I"⟩, 45), (⟨"HatDownTheStreetModel", "sheetWrong", "(I)I"⟩, 45), (⟨"HatDownTheStreetModel", "unlikeNow", "(II)I"⟩, 45), (⟨"HatDownTheStreetModel", "unlike", "(II)I"⟩, 45), (⟨"HatDownTheStreetModel", "blowsBy", "(I)V"⟩, 45), (⟨"HatDownTheStreetModel", "laysGusts", "()V"⟩, 45)]
theorem lw_r5 : ∀ q ∈ lw_privs_5, lw_okq q := List.forall_mem_cons.mpr ⟨lw_p64, List.forall_mem_cons.mpr ⟨lw_p65, List.forall_mem_cons.mpr ⟨lw_p66, List.forall_mem_cons.mpr ⟨lw_p67, List.forall_mem_cons.mpr ⟨lw_p68, List.forall_mem_cons.mpr ⟨lw_p69, List.forall_mem_cons.mpr ⟨lw_p70, List.forall_mem_cons.mpr ⟨lw_p71, fun _ h => absurd h List.not_mem_nil⟩⟩⟩⟩⟩⟩⟩⟩
def lw_privs : List (MethodName × Nat) := lw_privs_1 ++ (lw_privs_2 ++ (lw_privs_3 ++ (lw_privs_4 ++ (lw_privs_5))))
def lw_tbl : List Cond := k2_sels lw_privs ++ tables_1
theorem lw_privs_ok : ∀ q ∈ lw_privs, lw_okq q := by
  show ∀ q ∈ lw_privs_1 ++ (lw_privs_2 ++ (lw_privs_3 ++ (lw_privs_4 ++ (lw_privs_5)))), lw_okq q
  exact List.forall_mem_append.mpr ⟨lw_r1, List.forall_mem_append.mpr ⟨lw_r2, List.forall_mem_append.mpr ⟨lw_r3, List.forall_mem_append.mpr ⟨lw_r4, lw_r5⟩⟩⟩⟩
def RX0 : String := "HatDownTheStreet$Catcher"
def TX0 : u_T := fun k => match k with
  | 0 => ("HatDownTheStreet$Catcher", "square", "I", false)
  | 1 => ("HatDownTheStreet$Catcher", "pace", "I", false)
  | _ => ("HatDownTheStreet$Catcher", "reach", "I", false)
def tyX0 : Nat → FieldType := fun k => match k with
  | 0 => .int
  | 1 => .int
  | _ => .int
abbrev wsX00 : List Cond := u_ws RX0 TX0 3
theorem nmX0 : ∀ a, a < 3 → ∀ b, b < 3 → a ≠ b → (TX0 a).2.1 ≠ (TX0 b).2.1 := by decide +kernel
theorem tyX0_ok : ∀ k, k < 3 → parseFieldDescriptor (TX0 k).2.2.1 = some (tyX0 k) := by decide +kernel
abbrev cX0_init : ByteArray := prog_2_method_1_code
def yX0_init : MethodName := ⟨RX0, "<init>", "()V"⟩
abbrev cX0_become : ByteArray := prog_2_method_2_code
def yX0_become : MethodName := ⟨RX0, "become", "(LHatDownTheStreet$Catcher;)V"⟩
def RX1 : String := "HatDownTheStreet$Errand"
def TX1 : u_T := fun k => match k with
  | 0 => ("HatDownTheStreet$Errand", "paths", "[[I", true)
  | 1 => ("HatDownTheStreet$Errand", "best", "I", false)
  | 2 => ("HatDownTheStreet$Errand", "end", "I", false)
  | 3 => ("HatDownTheStreet$Errand", "hats", "I", false)
  | 4 => ("HatDownTheStreet$Errand", "pace", "I", false)
  | _ => ("HatDownTheStreet$Errand", "reach", "I", false)
def tyX1 : Nat → FieldType := fun k => match k with
  | 0 => .array (.array .int)
  | 1 => .int
  | 2 => .int
  | 3 => .int
  | 4 => .int
  | _ => .int
abbrev wsX10 : List Cond := u_ws RX1 TX1 6
theorem nmX1 : ∀ a, a < 6 → ∀ b, b < 6 → a ≠ b → (TX1 a).2.1 ≠ (TX1 b).2.1 := by decide +kernel
theorem tyX1_ok : ∀ k, k < 6 → parseFieldDescriptor (TX1 k).2.2.1 = some (tyX1 k) := by decide +kernel
abbrev cX1_init : ByteArray := prog_3_method_1_code
def yX1_init : MethodName := ⟨RX1, "<init>", "()V"⟩
abbrev cX1_plan : ByteArray := prog_3_method_2_code
def yX1_plan : MethodName := ⟨RX1, "plan", "(LHatDownTheStreet$Thought;LHatDownTheStreet$Catcher;I)V"⟩
abbrev cX1_fetch : ByteArray := prog_3_method_3_code
def yX1_fetch : MethodName := ⟨RX1, "fetch", "(LHatDownTheStreet$Thought;IIII)V"⟩
def RX2 : String := "HatDownTheStreet$Hat"
def TX2 : u_T := fun k => match k with
  | 0 => ("HatDownTheStreet$Hat", "kind", "I", false)
  | 1 => ("HatDownTheStreet$Hat", "more", "I", false)
  | _ => ("HatDownTheStreet$Hat", "state", "I", false)
def tyX2 : Nat → FieldType := fun k => match k with
  | 0 => .int
  | 1 => .int
  | _ => .int
abbrev wsX20 : List Cond := u_ws RX2 TX2 3
theorem nmX2 : ∀ a, a < 3 → ∀ b, b < 3 → a ≠ b → (TX2 a).2.1 ≠ (TX2 b).2.1 := by decide +kernel
theorem tyX2_ok : ∀ k, k < 3 → parseFieldDescriptor (TX2 k).2.2.1 = some (tyX2 k) := by decide +kernel
abbrev cX2_init : ByteArray := prog_4_method_1_code
def yX2_init : MethodName := ⟨RX2, "<init>", "()V"⟩
abbrev cX2_become : ByteArray := prog_4_method_2_code
def yX2_become : MethodName := ⟨RX2, "become", "(LHatDownTheStreet$Hat;)V"⟩
def RX3 : String := "HatDownTheStreet$Kinds"
def TX3 : u_T := fun k => match k with
  | _ => ("", "", "", false)
def tyX3 : Nat → FieldType := fun k => match k with
  | _ => .int
abbrev wsX30 : List Cond := u_ws RX3 TX3 0
theorem nmX3 : ∀ a, a < 0 → ∀ b, b < 0 → a ≠ b → (TX3 a).2.1 ≠ (TX3 b).2.1 := by decide +kernel
theorem tyX3_ok : ∀ k, k < 0 → parseFieldDescriptor (TX3 k).2.2.1 = some (tyX3 k) := by decide +kernel
abbrev cX3_far : ByteArray := prog_5_method_2_code
def yX3_far : MethodName := ⟨RX3, "far", "(IIII)I"⟩
abbrev cX3_hatFar : ByteArray := prog_5_method_3_code
def yX3_hatFar : MethodName := ⟨RX3, "hatFar", "(II)I"⟩
abbrev cX3_bowlerFar : ByteArray := prog_5_method_4_code
def yX3_bowlerFar : MethodName := ⟨RX3, "bowlerFar", "(III)I"⟩
abbrev cX3_capFar : ByteArray := prog_5_method_5_code
def yX3_capFar : MethodName := ⟨RX3, "capFar", "(I)I"⟩
abbrev cX3_turnsOver : ByteArray := prog_5_method_6_code
def yX3_turnsOver : MethodName := ⟨RX3, "turnsOver", "(I)Z"⟩
abbrev cX3_eddyWay : ByteArray := prog_5_method_7_code
def yX3_eddyWay : MethodName := ⟨RX3, "eddyWay", "(III)I"⟩
abbrev cX3_isOne : ByteArray := prog_5_method_8_code
def yX3_isOne : MethodName := ⟨RX3, "isOne", "(II)Z"⟩
def RX4 : String := "HatDownTheStreet$Law"
def TX4 : u_T := fun k => match k with
  | 0 => ("HatDownTheStreet$Law", "code", "[I", true)
  | 1 => ("HatDownTheStreet$Law", "ends", "[I", true)
  | 2 => ("HatDownTheStreet$Law", "pending", "[I", true)
  | _ => ("HatDownTheStreet$Law", "used", "I", false)
def tyX4 : Nat → FieldType := fun k => match k with
  | 0 => .array .int
  | 1 => .array .int
  | 2 => .array .int
  | _ => .int
abbrev wsX40 : List Cond := u_ws RX4 TX4 4
theorem nmX4 : ∀ a, a < 4 → ∀ b, b < 4 → a ≠ b → (TX4 a).2.1 ≠ (TX4 b).2.1 := by decide +kernel
theorem tyX4_ok : ∀ k, k < 4 → parseFieldDescriptor (TX4 k).2.2.1 = some (tyX4 k) := by decide +kernel
abbrev cX4_init : ByteArray := prog_6_method_1_code
def yX4_init : MethodName := ⟨RX4, "<init>", "()V"⟩
abbrev cX4_clear : ByteArray := prog_6_method_2_code
def yX4_clear : MethodName := ⟨RX4, "clear", "()V"⟩
abbrev cX4_add : ByteArray := prog_6_method_3_code
def yX4_add : MethodName := ⟨RX4, "add", "(I)V"⟩
abbrev cX4_addName : ByteArray := prog_6_method_4_code
def yX4_addName : MethodName := ⟨RX4, "addName", "(I)V"⟩
abbrev cX4_endPart : ByteArray := prog_6_method_5_code
def yX4_endPart : MethodName := ⟨RX4, "endPart", "(I)V"⟩
abbrev cX4_says : ByteArray := prog_6_method_6_code
def yX4_says : MethodName := ⟨RX4, "says", "(I[I)I"⟩
abbrev cX4_withinBounds : ByteArray := prog_6_method_7_code
def yX4_withinBounds : MethodName := ⟨RX4, "withinBounds", "(II)I"⟩
abbrev cX4_changed : ByteArray := prog_6_method_8_code
def yX4_changed : MethodName := ⟨RX4, "changed", "(II)I"⟩
abbrev cX4_joined : ByteArray := prog_6_method_9_code
def yX4_joined : MethodName := ⟨RX4, "joined", "(III)I"⟩
def RX5 : String := "HatDownTheStreet$Reader"
def TX5 : u_T := fun k => match k with
  | 0 => ("HatDownTheStreet$Reader", "fed", "I", false)
  | 1 => ("HatDownTheStreet$Reader", "tape", "[I", true)
  | 2 => ("HatDownTheStreet$Reader", "tokens", "[I", true)
  | 3 => ("HatDownTheStreet$Reader", "places", "[I", true)
  | 4 => ("HatDownTheStreet$Reader", "values", "[I", true)
  | 5 => ("HatDownTheStreet$Reader", "next", "I", false)
  | 6 => ("HatDownTheStreet$Reader", "token", "I", false)
  | 7 => ("HatDownTheStreet$Reader", "fault", "I", false)
  | _ => ("HatDownTheStreet$Reader", "law", "LHatDownTheStreet$Law;", false)
def tyX5 : Nat → FieldType := fun k => match k with
  | 0 => .int
  | 1 => .array .int
  | 2 => .array .int
  | 3 => .array .int
  | 4 => .array .int
  | 5 => .int
  | 6 => .int
  | 7 => .int
  | _ => .object "HatDownTheStreet$Law"
abbrev wsX50 : List Cond := u_ws RX5 TX5 9
theorem nmX5 : ∀ a, a < 9 → ∀ b, b < 9 → a ≠ b → (TX5 a).2.1 ≠ (TX5 b).2.1 := by decide +kernel
theorem tyX5_ok : ∀ k, k < 9 → parseFieldDescriptor (TX5 k).2.2.1 = some (tyX5 k) := by decide +kernel
abbrev cX5_init : ByteArray := prog_7_method_1_code
def yX5_init : MethodName := ⟨RX5, "<init>", "()V"⟩
abbrev cX5_put : ByteArray := prog_7_method_2_code
def yX5_put : MethodName := ⟨RX5, "put", "(I)V"⟩
abbrev cX5_readInto : ByteArray := prog_7_method_3_code
def yX5_readInto : MethodName := ⟨RX5, "readInto", "(LHatDownTheStreet$Law;)I"⟩
abbrev cX5_readPart : ByteArray := prog_7_method_4_code
def yX5_readPart : MethodName := ⟨RX5, "readPart", "(II)V"⟩
abbrev cX5_readOr : ByteArray := prog_7_method_5_code
def yX5_readOr : MethodName := ⟨RX5, "readOr", "(I)V"⟩
abbrev cX5_readAnd : ByteArray := prog_7_method_6_code
def yX5_readAnd : MethodName := ⟨RX5, "readAnd", "(I)V"⟩
abbrev cX5_readNot : ByteArray := prog_7_method_7_code
def yX5_readNot : MethodName := ⟨RX5, "readNot", "(I)V"⟩
abbrev cX5_readSum : ByteArray := prog_7_method_8_code
def yX5_readSum : MethodName := ⟨RX5, "readSum", "(I)V"⟩
abbrev cX5_readTerm : ByteArray := prog_7_method_9_code
def yX5_readTerm : MethodName := ⟨RX5, "readTerm", "(I)V"⟩
abbrev cX5_readOne : ByteArray := prog_7_method_10_code
def yX5_readOne : MethodName := ⟨RX5, "readOne", "(I)V"⟩
abbrev cX5_expect : ByteArray := prog_7_method_11_code
def yX5_expect : MethodName := ⟨RX5, "expect", "(I)V"⟩
abbrev cX5_refuse : ByteArray := prog_7_method_12_code
def yX5_refuse : MethodName := ⟨RX5, "refuse", "()V"⟩
abbrev cX5_advance : ByteArray := prog_7_method_13_code
def yX5_advance : MethodName := ⟨RX5, "advance", "()V"⟩
abbrev cX5_partTokens : ByteArray := prog_7_method_14_code
def yX5_partTokens : MethodName := ⟨RX5, "partTokens", "()V"⟩
abbrev cX5_byteAt : ByteArray := prog_7_method_15_code
def yX5_byteAt : MethodName := ⟨RX5, "byteAt", "(I)I"⟩
abbrev cX5_behindBlanks : ByteArray := prog_7_method_16_code
def yX5_behindBlanks : MethodName := ⟨RX5, "behindBlanks", "(I)I"⟩
abbrev cX5_tokenEnd : ByteArray := prog_7_method_17_code
def yX5_tokenEnd : MethodName := ⟨RX5, "tokenEnd", "(I)I"⟩
abbrev cX5_tokenBetween : ByteArray := prog_7_method_18_code
def yX5_tokenBetween : MethodName := ⟨RX5, "tokenBetween", "(II)I"⟩
abbrev cX5_valueOf : ByteArray := prog_7_method_19_code
def yX5_valueOf : MethodName := ⟨RX5, "valueOf", "(III)I"⟩
abbrev cX5_isLetter : ByteArray := prog_7_method_20_code
def yX5_isLetter : MethodName := ⟨RX5, "isLetter", "(I)Z"⟩
abbrev cX5_isDigit : ByteArray := prog_7_method_21_code
def yX5_isDigit : MethodName := ⟨RX5, "isDigit", "(I)Z"⟩
abbrev cX5_isSign : ByteArray := prog_7_method_22_code
def yX5_isSign : MethodName := ⟨RX5, "isSign", "(I)Z"⟩
abbrev cX5_nameBetween : ByteArray := prog_7_method_23_code
def yX5_nameBetween : MethodName := ⟨RX5, "nameBetween", "(II)I"⟩
abbrev cX5_keyBetween : ByteArray := prog_7_method_24_code
def yX5_keyBetween : MethodName := ⟨RX5, "keyBetween", "(II)I"⟩
abbrev cX5_isWord : ByteArray := prog_7_method_25_code
def yX5_isWord : MethodName := ⟨RX5, "isWord", "(Ljava/lang/String;II)Z"⟩
def RX6 : String := "HatDownTheStreet$Sheet"
def TX6 : u_T := fun k => match k with
  | 0 => ("HatDownTheStreet$Sheet", "sort", "I", false)
  | 1 => ("HatDownTheStreet$Sheet", "size", "I", false)
  | _ => ("HatDownTheStreet$Sheet", "row", "[I", true)
def tyX6 : Nat → FieldType := fun k => match k with
  | 0 => .int
  | 1 => .int
  | _ => .array .int
abbrev wsX60 : List Cond := u_ws RX6 TX6 3
theorem nmX6 : ∀ a, a < 3 → ∀ b, b < 3 → a ≠ b → (TX6 a).2.1 ≠ (TX6 b).2.1 := by decide +kernel
theorem tyX6_ok : ∀ k, k < 3 → parseFieldDescriptor (TX6 k).2.2.1 = some (tyX6 k) := by decide +kernel
abbrev cX6_init : ByteArray := prog_8_method_1_code
def yX6_init : MethodName := ⟨RX6, "<init>", "()V"⟩
abbrev cX6_becomeEmpty : ByteArray := prog_8_method_2_code
def yX6_becomeEmpty : MethodName := ⟨RX6, "becomeEmpty", "(II)V"⟩
abbrev cX6_put : ByteArray := prog_8_method_3_code
def yX6_put : MethodName := ⟨RX6, "put", "(II)V"⟩
def RX7 : String := "HatDownTheStreet$Street"
def TX7 : u_T := fun k => match k with
  | 0 => ("HatDownTheStreet$Street", "marks", "[I", true)
  | 1 => ("HatDownTheStreet$Street", "way", "[I", true)
  | 2 => ("HatDownTheStreet$Street", "strength", "[I", true)
  | 3 => ("HatDownTheStreet$Street", "hats", "[LHatDownTheStreet$Hat;", true)
  | 4 => ("HatDownTheStreet$Street", "catchers", "[LHatDownTheStreet$Catcher;", true)
  | 5 => ("HatDownTheStreet$Street", "hatCount", "I", false)
  | 6 => ("HatDownTheStreet$Street", "catcherCount", "I", false)
  | _ => ("HatDownTheStreet$Street", "law", "I", false)
def tyX7 : Nat → FieldType := fun k => match k with
  | 0 => .array .int
  | 1 => .array .int
  | 2 => .array .int
  | 3 => .array (.object "HatDownTheStreet$Hat")
  | 4 => .array (.object "HatDownTheStreet$Catcher")
  | 5 => .int
  | 6 => .int
  | _ => .int
abbrev wsX70 : List Cond := u_ws RX7 TX7 8
theorem nmX7 : ∀ a, a < 8 → ∀ b, b < 8 → a ≠ b → (TX7 a).2.1 ≠ (TX7 b).2.1 := by decide +kernel
theorem tyX7_ok : ∀ k, k < 8 → parseFieldDescriptor (TX7 k).2.2.1 = some (tyX7 k) := by decide +kernel
abbrev cX7_init : ByteArray := prog_9_method_1_code
def yX7_init : MethodName := ⟨RX7, "<init>", "()V"⟩
abbrev cX7_become : ByteArray := prog_9_method_2_code
def yX7_become : MethodName := ⟨RX7, "become", "(LHatDownTheStreet$Street;)V"⟩
abbrev cX7_gust : ByteArray := prog_9_method_3_code
def yX7_gust : MethodName := ⟨RX7, "gust", "(I)I"⟩
abbrev cX7_hatSquares : ByteArray := prog_9_method_4_code
def yX7_hatSquares : MethodName := ⟨RX7, "hatSquares", "()I"⟩
abbrev cX7_catcherSquares : ByteArray := prog_9_method_5_code
def yX7_catcherSquares : MethodName := ⟨RX7, "catcherSquares", "()I"⟩
abbrev cX7_removeHat : ByteArray := prog_9_method_6_code
def yX7_removeHat : MethodName := ⟨RX7, "removeHat", "(I)V"⟩
def RX8 : String := "HatDownTheStreet$Thought"
def TX8 : u_T := fun k => match k with
  | 0 => ("HatDownTheStreet$Thought", "walls", "I", false)
  | 1 => ("HatDownTheStreet$Thought", "puddles", "I", false)
  | 2 => ("HatDownTheStreet$Thought", "eddies", "I", false)
  | 3 => ("HatDownTheStreet$Thought", "kind", "I", false)
  | 4 => ("HatDownTheStreet$Thought", "more", "I", false)
  | 5 => ("HatDownTheStreet$Thought", "start", "I", false)
  | 6 => ("HatDownTheStreet$Thought", "law", "LHatDownTheStreet$Law;", false)
  | 7 => ("HatDownTheStreet$Thought", "way", "[I", true)
  | 8 => ("HatDownTheStreet$Thought", "strength", "[I", true)
  | 9 => ("HatDownTheStreet$Thought", "path", "[I", true)
  | _ => ("HatDownTheStreet$Thought", "names", "[I", true)
def tyX8 : Nat → FieldType := fun k => match k with
  | 0 => .int
  | 1 => .int
  | 2 => .int
  | 3 => .int
  | 4 => .int
  | 5 => .int
  | 6 => .object "HatDownTheStreet$Law"
  | 7 => .array .int
  | 8 => .array .int
  | 9 => .array .int
  | _ => .array .int
abbrev wsX80 : List Cond := u_ws RX8 TX8 11
theorem nmX8 : ∀ a, a < 11 → ∀ b, b < 11 → a ≠ b → (TX8 a).2.1 ≠ (TX8 b).2.1 := by decide +kernel
theorem tyX8_ok : ∀ k, k < 11 → parseFieldDescriptor (TX8 k).2.2.1 = some (tyX8 k) := by decide +kernel
abbrev cX8_init : ByteArray := prog_10_method_1_code
def yX8_init : MethodName := ⟨RX8, "<init>", "()V"⟩
abbrev cX8_suppose : ByteArray := prog_10_method_2_code
def yX8_suppose : MethodName := ⟨RX8, "suppose", "(LHatDownTheStreet$Street;LHatDownTheStreet$Hat;LHatDownTheStreet$Law;)V"⟩
abbrev cX8_drawGusts : ByteArray := prog_10_method_3_code
def yX8_drawGusts : MethodName := ⟨RX8, "drawGusts", "(I)V"⟩
abbrev cX8_tell : ByteArray := prog_10_method_4_code
def yX8_tell : MethodName := ⟨RX8, "tell", "(III)V"⟩
abbrev cX8_isWet : ByteArray := prog_10_method_5_code
def yX8_isWet : MethodName := ⟨RX8, "isWet", "(I)Z"⟩
abbrev cX8_later : ByteArray := prog_10_method_6_code
def yX8_later : MethodName := ⟨RX8, "later", "(III)I"⟩
abbrev cX8_follow : ByteArray := prog_10_method_7_code
def yX8_follow : MethodName := ⟨RX8, "follow", "([I)V"⟩
abbrev cX8_next : ByteArray := prog_10_method_8_code
def yX8_next : MethodName := ⟨RX8, "next", "(II)I"⟩
abbrev cX8_slide : ByteArray := prog_10_method_9_code
def yX8_slide : MethodName := ⟨RX8, "slide", "(III)I"⟩
abbrev cX8_beside : ByteArray := prog_10_method_10_code
def yX8_beside : MethodName := ⟨RX8, "beside", "(II)I"⟩
abbrev cX8_firstIn : ByteArray := prog_10_method_11_code
def yX8_firstIn : MethodName := ⟨RX8, "firstIn", "(I)I"⟩
abbrev cX8_hadBy : ByteArray := prog_10_method_12_code
def yX8_hadBy : MethodName := ⟨RX8, "hadBy", "(LHatDownTheStreet$Catcher;)I"⟩
abbrev cX8_had : ByteArray := prog_10_method_13_code
def yX8_had : MethodName := ⟨RX8, "had", "([IIIII)I"⟩
abbrev cX8_spread : ByteArray := prog_10_method_14_code
def yX8_spread : MethodName := ⟨RX8, "spread", "(II)I"⟩
abbrev cX8_elsewhere : ByteArray := prog_10_method_15_code
def yX8_elsewhere : MethodName := ⟨RX8, "elsewhere", "(LHatDownTheStreet$Sheet;I)I"⟩
def RX9 : String := "HatDownTheStreet"
def TX9 : u_T := fun k => match k with
  | 0 => ("HatDownTheStreet", "now", "LHatDownTheStreet$Street;", true)
  | 1 => ("HatDownTheStreet", "kept", "LHatDownTheStreet$Street;", true)
  | 2 => ("HatDownTheStreet", "isKept", "Z", false)
  | 3 => ("HatDownTheStreet", "texts", "[LHatDownTheStreet$Law;", true)
  | 4 => ("HatDownTheStreet", "textCount", "I", false)
  | 5 => ("HatDownTheStreet", "reader", "LHatDownTheStreet$Reader;", true)
  | 6 => ("HatDownTheStreet", "rows", "[LHatDownTheStreet$Sheet;", true)
  | 7 => ("HatDownTheStreet", "mind", "LHatDownTheStreet$Thought;", true)
  | 8 => ("HatDownTheStreet", "errand", "LHatDownTheStreet$Errand;", true)
  | _ => ("HatDownTheStreet", "tally", "[I", true)
def tyX9 : Nat → FieldType := fun k => match k with
  | 0 => .object "HatDownTheStreet$Street"
  | 1 => .object "HatDownTheStreet$Street"
  | 2 => .boolean
  | 3 => .array (.object "HatDownTheStreet$Law")
  | 4 => .int
  | 5 => .object "HatDownTheStreet$Reader"
  | 6 => .array (.object "HatDownTheStreet$Sheet")
  | 7 => .object "HatDownTheStreet$Thought"
  | 8 => .object "HatDownTheStreet$Errand"
  | _ => .array .int
abbrev wsX90 : List Cond := u_ws RX9 TX9 10
theorem nmX9 : ∀ a, a < 10 → ∀ b, b < 10 → a ≠ b → (TX9 a).2.1 ≠ (TX9 b).2.1 := by decide +kernel
theorem tyX9_ok : ∀ k, k < 10 → parseFieldDescriptor (TX9 k).2.2.1 = some (tyX9 k) := by decide +kernel
abbrev cX9_init : ByteArray := prog_1_method_1_code
def yX9_init : MethodName := ⟨RX9, "<init>", "()V"⟩
abbrev cX9_street : ByteArray := prog_1_method_2_code
def yX9_street : MethodName := ⟨RX9, "street", "(III)I"⟩
abbrev cX9_blow : ByteArray := prog_1_method_3_code
def yX9_blow : MethodName := ⟨RX9, "blow", "(III)I"⟩
abbrev cX9_wind : ByteArray := prog_1_method_4_code
def yX9_wind : MethodName := ⟨RX9, "wind", "(I)I"⟩
abbrev cX9_count : ByteArray := prog_1_method_5_code
def yX9_count : MethodName := ⟨RX9, "count", "(I)I"⟩
abbrev cX9_feed : ByteArray := prog_1_method_6_code
def yX9_feed : MethodName := ⟨RX9, "feed", "(IIIIII)I"⟩
abbrev cX9_text : ByteArray := prog_1_method_7_code
def yX9_text : MethodName := ⟨RX9, "text", "()I"⟩
abbrev cX9_force : ByteArray := prog_1_method_8_code
def yX9_force : MethodName := ⟨RX9, "force", "(I)I"⟩
abbrev cX9_asks : ByteArray := prog_1_method_9_code
def yX9_asks : MethodName := ⟨RX9, "asks", "(IIIII)I"⟩
abbrev cX9_hat : ByteArray := prog_1_method_10_code
def yX9_hat : MethodName := ⟨RX9, "hat", "(III)I"⟩
abbrev cX9_set : ByteArray := prog_1_method_11_code
def yX9_set : MethodName := ⟨RX9, "set", "(III)I"⟩
abbrev cX9_told : ByteArray := prog_1_method_12_code
def yX9_told : MethodName := ⟨RX9, "told", "(II)I"⟩
abbrev cX9_come : ByteArray := prog_1_method_13_code
def yX9_come : MethodName := ⟨RX9, "come", "(III)I"⟩
abbrev cX9_does : ByteArray := prog_1_method_14_code
def yX9_does : MethodName := ⟨RX9, "does", "(III)I"⟩
abbrev cX9_at : ByteArray := prog_1_method_15_code
def yX9_at : MethodName := ⟨RX9, "at", "(III)I"⟩
abbrev cX9_pass : ByteArray := prog_1_method_16_code
def yX9_pass : MethodName := ⟨RX9, "pass", "(I)I"⟩
abbrev cX9_when : ByteArray := prog_1_method_17_code
def yX9_when : MethodName := ⟨RX9, "when", "(II)I"⟩
abbrev cX9_track : ByteArray := prog_1_method_18_code
def yX9_track : MethodName := ⟨RX9, "track", "(II)I"⟩
abbrev cX9_over : ByteArray := prog_1_method_19_code
def yX9_over : MethodName := ⟨RX9, "over", "(I)I"⟩
abbrev cX9_round : ByteArray := prog_1_method_20_code
def yX9_round : MethodName := ⟨RX9, "round", "(II)I"⟩
abbrev cX9_from : ByteArray := prog_1_method_21_code
def yX9_from : MethodName := ⟨RX9, "from", "(III)I"⟩
abbrev cX9_keeps : ByteArray := prog_1_method_22_code
def yX9_keeps : MethodName := ⟨RX9, "keeps", "(III)I"⟩
abbrev cX9_caught : ByteArray := prog_1_method_23_code
def yX9_caught : MethodName := ⟨RX9, "caught", "(II)I"⟩
abbrev cX9_who : ByteArray := prog_1_method_24_code
def yX9_who : MethodName := ⟨RX9, "who", "(II)I"⟩
abbrev cX9_stand : ByteArray := prog_1_method_25_code
def yX9_stand : MethodName := ⟨RX9, "stand", "(III)I"⟩
abbrev cX9_wait : ByteArray := prog_1_method_26_code
def yX9_wait : MethodName := ⟨RX9, "wait", "(II)I"⟩
abbrev cX9_pace : ByteArray := prog_1_method_27_code
def yX9_pace : MethodName := ⟨RX9, "pace", "(III)I"⟩
abbrev cX9_order : ByteArray := prog_1_method_28_code
def yX9_order : MethodName := ⟨RX9, "order", "(II)I"⟩
abbrev cX9_gain : ByteArray := prog_1_method_29_code
def yX9_gain : MethodName := ⟨RX9, "gain", "(II)I"⟩
abbrev cX9_whom : ByteArray := prog_1_method_30_code
def yX9_whom : MethodName := ⟨RX9, "whom", "(II)I"⟩
abbrev cX9_run : ByteArray := prog_1_method_31_code
def yX9_run : MethodName := ⟨RX9, "run", "(II)I"⟩
abbrev cX9_held : ByteArray := prog_1_method_32_code
def yX9_held : MethodName := ⟨RX9, "held", "(III)I"⟩
abbrev cX9_save : ByteArray := prog_1_method_33_code
def yX9_save : MethodName := ⟨RX9, "save", "(I)I"⟩
abbrev cX9_turned : ByteArray := prog_1_method_34_code
def yX9_turned : MethodName := ⟨RX9, "turned", "(III)I"⟩
abbrev cX9_lull : ByteArray := prog_1_method_35_code
def yX9_lull : MethodName := ⟨RX9, "lull", "(III)I"⟩
abbrev cX9_fence : ByteArray := prog_1_method_36_code
def yX9_fence : MethodName := ⟨RX9, "fence", "(III)I"⟩
abbrev cX9_judge : ByteArray := prog_1_method_37_code
def yX9_judge : MethodName := ⟨RX9, "judge", "(II)I"⟩
abbrev cX9_whose : ByteArray := prog_1_method_38_code
def yX9_whose : MethodName := ⟨RX9, "whose", "(I)I"⟩
abbrev cX9_lay : ByteArray := prog_1_method_39_code
def yX9_lay : MethodName := ⟨RX9, "lay", "(II)I"⟩
abbrev cX9_kinds : ByteArray := prog_1_method_40_code
def yX9_kinds : MethodName := ⟨RX9, "kinds", "(III)I"⟩
abbrev cX9_laws : ByteArray := prog_1_method_41_code
def yX9_laws : MethodName := ⟨RX9, "laws", "(II)I"⟩
abbrev cX9_film : ByteArray := prog_1_method_42_code
def yX9_film : MethodName := ⟨RX9, "film", "(III)I"⟩
abbrev cX9_drawn : ByteArray := prog_1_method_43_code
def yX9_drawn : MethodName := ⟨RX9, "drawn", "(III)I"⟩
abbrev cX9_odds : ByteArray := prog_1_method_44_code
def yX9_odds : MethodName := ⟨RX9, "odds", "(IIII)J"⟩
abbrev cX9_image : ByteArray := prog_1_method_45_code
def yX9_image : MethodName := ⟨RX9, "image", "()I"⟩
abbrev cX9_back : ByteArray := prog_1_method_46_code
def yX9_back : MethodName := ⟨RX9, "back", "()I"⟩
abbrev cX9_sheet : ByteArray := prog_1_method_47_code
def yX9_sheet : MethodName := ⟨RX9, "sheet", "(III)I"⟩
abbrev cX9_cell : ByteArray := prog_1_method_48_code
def yX9_cell : MethodName := ⟨RX9, "cell", "(III)I"⟩
abbrev cX9_copy : ByteArray := prog_1_method_49_code
def yX9_copy : MethodName := ⟨RX9, "copy", "(IIIII)I"⟩
abbrev cX9_gustsBy : ByteArray := prog_1_method_50_code
def yX9_gustsBy : MethodName := ⟨RX9, "gustsBy", "(IIII)I"⟩
abbrev cX9_taken : ByteArray := prog_1_method_51_code
def yX9_taken : MethodName := ⟨RX9, "taken", "(II)I"⟩
abbrev cX9_isHat : ByteArray := prog_1_method_52_code
def yX9_isHat : MethodName := ⟨RX9, "isHat", "(I)Z"⟩
abbrev cX9_isCatcher : ByteArray := prog_1_method_53_code
def yX9_isCatcher : MethodName := ⟨RX9, "isCatcher", "(I)Z"⟩
abbrev cX9_isOpen : ByteArray := prog_1_method_54_code
def yX9_isOpen : MethodName := ⟨RX9, "isOpen", "(I)Z"⟩
abbrev cX9_isSquare : ByteArray := prog_1_method_55_code
def yX9_isSquare : MethodName := ⟨RX9, "isSquare", "(I)Z"⟩
abbrev cX9_isSecond : ByteArray := prog_1_method_56_code
def yX9_isSecond : MethodName := ⟨RX9, "isSecond", "(I)Z"⟩
abbrev cX9_isBehind : ByteArray := prog_1_method_57_code
def yX9_isBehind : MethodName := ⟨RX9, "isBehind", "(I)Z"⟩
abbrev cX9_isByte : ByteArray := prog_1_method_58_code
def yX9_isByte : MethodName := ⟨RX9, "isByte", "(I)Z"⟩
abbrev cX9_isLie : ByteArray := prog_1_method_59_code
def yX9_isLie : MethodName := ⟨RX9, "isLie", "(I)Z"⟩
abbrev cX9_isPace : ByteArray := prog_1_method_60_code
def yX9_isPace : MethodName := ⟨RX9, "isPace", "(I)Z"⟩
abbrev cX9_isReach : ByteArray := prog_1_method_61_code
def yX9_isReach : MethodName := ⟨RX9, "isReach", "(I)Z"⟩
abbrev cX9_isSeed : ByteArray := prog_1_method_62_code
def yX9_isSeed : MethodName := ⟨RX9, "isSeed", "(I)Z"⟩
abbrev cX9_isSheet : ByteArray := prog_1_method_63_code
def yX9_isSheet : MethodName := ⟨RX9, "isSheet", "(I)Z"⟩
abbrev cX9_isZeroOrOne : ByteArray := prog_1_method_64_code
def yX9_isZeroOrOne : MethodName := ⟨RX9, "isZeroOrOne", "(I)Z"⟩
abbrev cX9_isSooner : ByteArray := prog_1_method_65_code
def yX9_isSooner : MethodName := ⟨RX9, "isSooner", "(II)Z"⟩
abbrev cX9_stateOf : ByteArray := prog_1_method_66_code
def yX9_stateOf : MethodName := ⟨RX9, "stateOf", "(II)I"⟩
abbrev cX9_squareOf : ByteArray := prog_1_method_67_code
def yX9_squareOf : MethodName := ⟨RX9, "squareOf", "(I)I"⟩
abbrev cX9_lieOf : ByteArray := prog_1_method_68_code
def yX9_lieOf : MethodName := ⟨RX9, "lieOf", "(I)I"⟩
abbrev cX9_bounded : ByteArray := prog_1_method_69_code
def yX9_bounded : MethodName := ⟨RX9, "bounded", "(III)I"⟩
abbrev cX9_commonDivisor : ByteArray := prog_1_method_70_code
def yX9_commonDivisor : MethodName := ⟨RX9, "commonDivisor", "(II)I"⟩
abbrev cX9_think : ByteArray := prog_1_method_71_code
def yX9_think : MethodName := ⟨RX9, "think", "(I)V"⟩
abbrev cX9_hadNow : ByteArray := prog_1_method_72_code
def yX9_hadNow : MethodName := ⟨RX9, "hadNow", "(II)I"⟩
abbrev cX9_worthHad : ByteArray := prog_1_method_73_code
def yX9_worthHad : MethodName := ⟨RX9, "worthHad", "(II)I"⟩
abbrev cX9_letPass : ByteArray := prog_1_method_74_code
def yX9_letPass : MethodName := ⟨RX9, "letPass", "(I)V"⟩
abbrev cX9_refusalOfPair : ByteArray := prog_1_method_75_code
def yX9_refusalOfPair : MethodName := ⟨RX9, "refusalOfPair", "(III)I"⟩
abbrev cX9_refusalOfWay : ByteArray := prog_1_method_76_code
def yX9_refusalOfWay : MethodName := ⟨RX9, "refusalOfWay", "(II)I"⟩
abbrev cX9_refusalOfTold : ByteArray := prog_1_method_77_code
def yX9_refusalOfTold : MethodName := ⟨RX9, "refusalOfTold", "(I)I"⟩
def RX10 : String := "HatDownTheStreetModel"
def TX10 : u_T := fun k => match k with
  | 0 => ("HatDownTheStreetModel", "sets", "[I", true)
  | 1 => ("HatDownTheStreetModel", "ways", "[I", true)
  | 2 => ("HatDownTheStreetModel", "strengths", "[I", true)
  | 3 => ("HatDownTheStreetModel", "hats", "I", false)
  | 4 => ("HatDownTheStreetModel", "kind", "[I", true)
  | 5 => ("HatDownTheStreetModel", "moreOf", "[I", true)
  | 6 => ("HatDownTheStreetModel", "squareOf", "[I", true)
  | 7 => ("HatDownTheStreetModel", "lieOf", "[I", true)
  | 8 => ("HatDownTheStreetModel", "catchers", "I", false)
  | 9 => ("HatDownTheStreetModel", "catcher", "[I", true)
  | 10 => ("HatDownTheStreetModel", "tape", "[I", true)
  | 11 => ("HatDownTheStreetModel", "taped", "I", false)
  | 12 => ("HatDownTheStreetModel", "codes", "[I", true)
  | 13 => ("HatDownTheStreetModel", "starts", "[I", true)
  | 14 => ("HatDownTheStreetModel", "texts", "I", false)
  | 15 => ("HatDownTheStreetModel", "rule", "I", false)
  | 16 => ("HatDownTheStreetModel", "hasImage", "Z", false)
  | 17 => ("HatDownTheStreetModel", "imageHats", "I", false)
  | 18 => ("HatDownTheStreetModel", "imageCatchers", "I", false)
  | 19 => ("HatDownTheStreetModel", "imageRule", "I", false)
  | 20 => ("HatDownTheStreetModel", "imageRows", "[I", true)
  | 21 => ("HatDownTheStreetModel", "sheetSort", "[I", true)
  | 22 => ("HatDownTheStreetModel", "sheetSize", "[I", true)
  | 23 => ("HatDownTheStreetModel", "cells", "[I", true)
  | 24 => ("HatDownTheStreetModel", "law", "[I", true)
  | 25 => ("HatDownTheStreetModel", "at", "I", false)
  | 26 => ("HatDownTheStreetModel", "begun", "I", false)
  | 27 => ("HatDownTheStreetModel", "token", "I", false)
  | 28 => ("HatDownTheStreetModel", "value", "I", false)
  | 29 => ("HatDownTheStreetModel", "words", "[I", true)
  | 30 => ("HatDownTheStreetModel", "held", "[I", true)
  | 31 => ("HatDownTheStreetModel", "heldMany", "I", false)
  | 32 => ("HatDownTheStreetModel", "opens", "I", false)
  | 33 => ("HatDownTheStreetModel", "out", "I", false)
  | 34 => ("HatDownTheStreetModel", "stack", "[I", true)
  | 35 => ("HatDownTheStreetModel", "named", "[I", true)
  | 36 => ("HatDownTheStreetModel", "now", "I", false)
  | 37 => ("HatDownTheStreetModel", "lie", "I", false)
  | 38 => ("HatDownTheStreetModel", "holdFrom", "I", false)
  | 39 => ("HatDownTheStreetModel", "holdMany", "I", false)
  | 40 => ("HatDownTheStreetModel", "dayOf", "[I", true)
  | 41 => ("HatDownTheStreetModel", "comesTo", "[I", true)
  | 42 => ("HatDownTheStreetModel", "far", "[I", true)
  | 43 => ("HatDownTheStreetModel", "keptWays", "[I", true)
  | _ => ("HatDownTheStreetModel", "keptStrengths", "[I", true)
def tyX10 : Nat → FieldType := fun k => match k with
  | 0 => .array .int
  | 1 => .array .int
  | 2 => .array .int
  | 3 => .int
  | 4 => .array .int
  | 5 => .array .int
  | 6 => .array .int
  | 7 => .array .int
  | 8 => .int
  | 9 => .array .int
  | 10 => .array .int
  | 11 => .int
  | 12 => .array .int
  | 13 => .array .int
  | 14 => .int
  | 15 => .int
  | 16 => .boolean
  | 17 => .int
  | 18 => .int
  | 19 => .int
  | 20 => .array .int
  | 21 => .array .int
  | 22 => .array .int
  | 23 => .array .int
  | 24 => .array .int
  | 25 => .int
  | 26 => .int
  | 27 => .int
  | 28 => .int
  | 29 => .array .int
  | 30 => .array .int
  | 31 => .int
  | 32 => .int
  | 33 => .int
  | 34 => .array .int
  | 35 => .array .int
  | 36 => .int
  | 37 => .int
  | 38 => .int
  | 39 => .int
  | 40 => .array .int
  | 41 => .array .int
  | 42 => .array .int
  | 43 => .array .int
  | _ => .array .int
abbrev wsX100 : List Cond := u_ws RX10 TX10 45
theorem nmX10 : ∀ a, a < 45 → ∀ b, b < 45 → a ≠ b → (TX10 a).2.1 ≠ (TX10 b).2.1 := by decide +kernel
theorem tyX10_ok : ∀ k, k < 45 → parseFieldDescriptor (TX10 k).2.2.1 = some (tyX10 k) := by decide +kernel
abbrev cX10_init : ByteArray := prog_12_method_1_code
def yX10_init : MethodName := ⟨RX10, "<init>", "()V"⟩
abbrev cX10_in : ByteArray := prog_12_method_3_code
def yX10_in : MethodName := ⟨RX10, "in", "(III)Z"⟩
abbrev cX10_within : ByteArray := prog_12_method_4_code
def yX10_within : MethodName := ⟨RX10, "within", "(III)I"⟩
abbrev cX10_isSquare : ByteArray := prog_12_method_5_code
def yX10_isSquare : MethodName := ⟨RX10, "isSquare", "(I)Z"⟩
abbrev cX10_has : ByteArray := prog_12_method_6_code
def yX10_has : MethodName := ⟨RX10, "has", "(II)Z"⟩
abbrev cX10_isFree : ByteArray := prog_12_method_7_code
def yX10_isFree : MethodName := ⟨RX10, "isFree", "(I)Z"⟩
abbrev cX10_isHat : ByteArray := prog_12_method_8_code
def yX10_isHat : MethodName := ⟨RX10, "isHat", "(I)Z"⟩
abbrev cX10_isCatcher : ByteArray := prog_12_method_9_code
def yX10_isCatcher : MethodName := ⟨RX10, "isCatcher", "(I)Z"⟩
abbrev cX10_areSeconds : ByteArray := prog_12_method_10_code
def yX10_areSeconds : MethodName := ⟨RX10, "areSeconds", "(I)Z"⟩
abbrev cX10_isAnyIn : ByteArray := prog_12_method_11_code
def yX10_isAnyIn : MethodName := ⟨RX10, "isAnyIn", "(I)Z"⟩
abbrev cX10_street : ByteArray := prog_12_method_12_code
def yX10_street : MethodName := ⟨RX10, "street", "(III)I"⟩
abbrev cX10_blow : ByteArray := prog_12_method_13_code
def yX10_blow : MethodName := ⟨RX10, "blow", "(III)I"⟩
abbrev cX10_wind : ByteArray := prog_12_method_14_code
def yX10_wind : MethodName := ⟨RX10, "wind", "(I)I"⟩
abbrev cX10_count : ByteArray := prog_12_method_15_code
def yX10_count : MethodName := ⟨RX10, "count", "(I)I"⟩
abbrev cX10_isByte : ByteArray := prog_12_method_16_code
def yX10_isByte : MethodName := ⟨RX10, "isByte", "(I)Z"⟩
abbrev cX10_feed : ByteArray := prog_12_method_17_code
def yX10_feed : MethodName := ⟨RX10, "feed", "(IIIIII)I"⟩
abbrev cX10_wordFrom : ByteArray := prog_12_method_18_code
def yX10_wordFrom : MethodName := ⟨RX10, "wordFrom", "(II)I"⟩
abbrev cX10_next : ByteArray := prog_12_method_19_code
def yX10_next : MethodName := ⟨RX10, "next", "()V"⟩
abbrev cX10_rank : ByteArray := prog_12_method_20_code
def yX10_rank : MethodName := ⟨RX10, "rank", "(I)I"⟩
abbrev cX10_puts : ByteArray := prog_12_method_21_code
def yX10_puts : MethodName := ⟨RX10, "puts", "(I)V"⟩
abbrev cX10_unwinds : ByteArray := prog_12_method_22_code
def yX10_unwinds : MethodName := ⟨RX10, "unwinds", "(I)V"⟩
abbrev cX10_holds : ByteArray := prog_12_method_23_code
def yX10_holds : MethodName := ⟨RX10, "holds", "(I)V"⟩
abbrev cX10_opensOne : ByteArray := prog_12_method_24_code
def yX10_opensOne : MethodName := ⟨RX10, "opensOne", "(I)Z"⟩
abbrev cX10_between : ByteArray := prog_12_method_25_code
def yX10_between : MethodName := ⟨RX10, "between", "(I)Z"⟩
abbrev cX10_signOf : ByteArray := prog_12_method_26_code
def yX10_signOf : MethodName := ⟨RX10, "signOf", "()I"⟩
abbrev cX10_eRead : ByteArray := prog_12_method_27_code
def yX10_eRead : MethodName := ⟨RX10, "eRead", "()Z"⟩
abbrev cX10_text : ByteArray := prog_12_method_28_code
def yX10_text : MethodName := ⟨RX10, "text", "()I"⟩
abbrev cX10_two : ByteArray := prog_12_method_29_code
def yX10_two : MethodName := ⟨RX10, "two", "(III)I"⟩
abbrev cX10_says : ByteArray := prog_12_method_30_code
def yX10_says : MethodName := ⟨RX10, "says", "(I)I"⟩
abbrev cX10_force : ByteArray := prog_12_method_31_code
def yX10_force : MethodName := ⟨RX10, "force", "(I)I"⟩
abbrev cX10_asksOf : ByteArray := prog_12_method_32_code
def yX10_asksOf : MethodName := ⟨RX10, "asksOf", "(IIIIIII)I"⟩
abbrev cX10_asks : ByteArray := prog_12_method_33_code
def yX10_asks : MethodName := ⟨RX10, "asks", "(IIIII)I"⟩
abbrev cX10_hat : ByteArray := prog_12_method_34_code
def yX10_hat : MethodName := ⟨RX10, "hat", "(III)I"⟩
abbrev cX10_set : ByteArray := prog_12_method_35_code
def yX10_set : MethodName := ⟨RX10, "set", "(III)I"⟩
abbrev cX10_told : ByteArray := prog_12_method_36_code
def yX10_told : MethodName := ⟨RX10, "told", "(II)I"⟩
abbrev cX10_come : ByteArray := prog_12_method_37_code
def yX10_come : MethodName := ⟨RX10, "come", "(III)I"⟩
abbrev cX10_does : ByteArray := prog_12_method_38_code
def yX10_does : MethodName := ⟨RX10, "does", "(III)I"⟩
abbrev cX10_next0 : ByteArray := prog_12_method_39_code
def yX10_next0 : MethodName := ⟨RX10, "next0", "(II)I"⟩
abbrev cX10_beside : ByteArray := prog_12_method_40_code
def yX10_beside : MethodName := ⟨RX10, "beside", "(II)I"⟩
abbrev cX10_goesBy : ByteArray := prog_12_method_41_code
def yX10_goesBy : MethodName := ⟨RX10, "goesBy", "(II)I"⟩
abbrev cX10_wayIn : ByteArray := prog_12_method_42_code
def yX10_wayIn : MethodName := ⟨RX10, "wayIn", "(II)I"⟩
abbrev cX10_seconds : ByteArray := prog_12_method_43_code
def yX10_seconds : MethodName := ⟨RX10, "seconds", "(II)V"⟩
abbrev cX10_begins : ByteArray := prog_12_method_44_code
def yX10_begins : MethodName := ⟨RX10, "begins", "(I)V"⟩
abbrev cX10_goesOn : ByteArray := prog_12_method_45_code
def yX10_goesOn : MethodName := ⟨RX10, "goesOn", "(II)V"⟩
abbrev cX10_squareBehind : ByteArray := prog_12_method_46_code
def yX10_squareBehind : MethodName := ⟨RX10, "squareBehind", "(II)I"⟩
abbrev cX10_at : ByteArray := prog_12_method_47_code
def yX10_at : MethodName := ⟨RX10, "at", "(III)I"⟩
abbrev cX10_passes : ByteArray := prog_12_method_48_code
def yX10_passes : MethodName := ⟨RX10, "passes", "(I)V"⟩
abbrev cX10_pass : ByteArray := prog_12_method_49_code
def yX10_pass : MethodName := ⟨RX10, "pass", "(I)I"⟩
abbrev cX10_when : ByteArray := prog_12_method_50_code
def yX10_when : MethodName := ⟨RX10, "when", "(II)I"⟩
abbrev cX10_track : ByteArray := prog_12_method_51_code
def yX10_track : MethodName := ⟨RX10, "track", "(II)I"⟩
abbrev cX10_over : ByteArray := prog_12_method_52_code
def yX10_over : MethodName := ⟨RX10, "over", "(I)I"⟩
abbrev cX10_round : ByteArray := prog_12_method_53_code
def yX10_round : MethodName := ⟨RX10, "round", "(II)I"⟩
abbrev cX10_comesFromAll : ByteArray := prog_12_method_54_code
def yX10_comesFromAll : MethodName := ⟨RX10, "comesFromAll", "(II)V"⟩
abbrev cX10_from : ByteArray := prog_12_method_55_code
def yX10_from : MethodName := ⟨RX10, "from", "(III)I"⟩
abbrev cX10_keeps : ByteArray := prog_12_method_56_code
def yX10_keeps : MethodName := ⟨RX10, "keeps", "(III)I"⟩
abbrev cX10_spreads : ByteArray := prog_12_method_57_code
def yX10_spreads : MethodName := ⟨RX10, "spreads", "(I)V"⟩
abbrev cX10_had : ByteArray := prog_12_method_58_code
def yX10_had : MethodName := ⟨RX10, "had", "(IIIII)I"⟩
abbrev cX10_hadBy : ByteArray := prog_12_method_59_code
def yX10_hadBy : MethodName := ⟨RX10, "hadBy", "(II)I"⟩
abbrev cX10_areThere : ByteArray := prog_12_method_60_code
def yX10_areThere : MethodName := ⟨RX10, "areThere", "(II)Z"⟩
abbrev cX10_caught : ByteArray := prog_12_method_61_code
def yX10_caught : MethodName := ⟨RX10, "caught", "(II)I"⟩
abbrev cX10_who : ByteArray := prog_12_method_62_code
def yX10_who : MethodName := ⟨RX10, "who", "(II)I"⟩
abbrev cX10_stand : ByteArray := prog_12_method_63_code
def yX10_stand : MethodName := ⟨RX10, "stand", "(III)I"⟩
abbrev cX10_wait : ByteArray := prog_12_method_64_code
def yX10_wait : MethodName := ⟨RX10, "wait", "(II)I"⟩
abbrev cX10_pace : ByteArray := prog_12_method_65_code
def yX10_pace : MethodName := ⟨RX10, "pace", "(III)I"⟩
abbrev cX10_isInOrder : ByteArray := prog_12_method_66_code
def yX10_isInOrder : MethodName := ⟨RX10, "isInOrder", "(II)Z"⟩
abbrev cX10_lastBy : ByteArray := prog_12_method_67_code
def yX10_lastBy : MethodName := ⟨RX10, "lastBy", "(II)I"⟩
abbrev cX10_order : ByteArray := prog_12_method_68_code
def yX10_order : MethodName := ⟨RX10, "order", "(II)I"⟩
abbrev cX10_gainOf : ByteArray := prog_12_method_69_code
def yX10_gainOf : MethodName := ⟨RX10, "gainOf", "(II)I"⟩
abbrev cX10_gain : ByteArray := prog_12_method_70_code
def yX10_gain : MethodName := ⟨RX10, "gain", "(II)I"⟩
abbrev cX10_whom : ByteArray := prog_12_method_71_code
def yX10_whom : MethodName := ⟨RX10, "whom", "(II)I"⟩
abbrev cX10_run : ByteArray := prog_12_method_72_code
def yX10_run : MethodName := ⟨RX10, "run", "(II)I"⟩
abbrev cX10_squareHeld : ByteArray := prog_12_method_73_code
def yX10_squareHeld : MethodName := ⟨RX10, "squareHeld", "(IIII)I"⟩
abbrev cX10_held : ByteArray := prog_12_method_74_code
def yX10_held : MethodName := ⟨RX10, "held", "(III)I"⟩
abbrev cX10_save : ByteArray := prog_12_method_75_code
def yX10_save : MethodName := ⟨RX10, "save", "(I)I"⟩
abbrev cX10_turned : ByteArray := prog_12_method_76_code
def yX10_turned : MethodName := ⟨RX10, "turned", "(III)I"⟩
abbrev cX10_isSooner : ByteArray := prog_12_method_77_code
def yX10_isSooner : MethodName := ⟨RX10, "isSooner", "(II)Z"⟩
abbrev cX10_lull : ByteArray := prog_12_method_78_code
def yX10_lull : MethodName := ⟨RX10, "lull", "(III)I"⟩
abbrev cX10_fence : ByteArray := prog_12_method_79_code
def yX10_fence : MethodName := ⟨RX10, "fence", "(III)I"⟩
abbrev cX10_sheetWrong : ByteArray := prog_12_method_80_code
def yX10_sheetWrong : MethodName := ⟨RX10, "sheetWrong", "(I)I"⟩
abbrev cX10_toldWrong : ByteArray := prog_12_method_81_code
def yX10_toldWrong : MethodName := ⟨RX10, "toldWrong", "(II)I"⟩
abbrev cX10_unlike : ByteArray := prog_12_method_82_code
def yX10_unlike : MethodName := ⟨RX10, "unlike", "(II)I"⟩
abbrev cX10_unlikeNow : ByteArray := prog_12_method_83_code
def yX10_unlikeNow : MethodName := ⟨RX10, "unlikeNow", "(II)I"⟩
abbrev cX10_judge : ByteArray := prog_12_method_84_code
def yX10_judge : MethodName := ⟨RX10, "judge", "(II)I"⟩
abbrev cX10_whose : ByteArray := prog_12_method_85_code
def yX10_whose : MethodName := ⟨RX10, "whose", "(I)I"⟩
abbrev cX10_lay : ByteArray := prog_12_method_86_code
def yX10_lay : MethodName := ⟨RX10, "lay", "(II)I"⟩
abbrev cX10_kinds : ByteArray := prog_12_method_87_code
def yX10_kinds : MethodName := ⟨RX10, "kinds", "(III)I"⟩
abbrev cX10_laws : ByteArray := prog_12_method_88_code
def yX10_laws : MethodName := ⟨RX10, "laws", "(II)I"⟩
abbrev cX10_film : ByteArray := prog_12_method_89_code
def yX10_film : MethodName := ⟨RX10, "film", "(III)I"⟩
abbrev cX10_blowsBy : ByteArray := prog_12_method_90_code
def yX10_blowsBy : MethodName := ⟨RX10, "blowsBy", "(I)V"⟩
abbrev cX10_laysGusts : ByteArray := prog_12_method_91_code
def yX10_laysGusts : MethodName := ⟨RX10, "laysGusts", "()V"⟩
abbrev cX10_drawn : ByteArray := prog_12_method_92_code
def yX10_drawn : MethodName := ⟨RX10, "drawn", "(III)I"⟩
abbrev cX10_lowest : ByteArray := prog_12_method_93_code
def yX10_lowest : MethodName := ⟨RX10, "lowest", "(JJI)J"⟩
abbrev cX10_odds : ByteArray := prog_12_method_94_code
def yX10_odds : MethodName := ⟨RX10, "odds", "(IIII)J"⟩
abbrev cX10_image : ByteArray := prog_12_method_95_code
def yX10_image : MethodName := ⟨RX10, "image", "()I"⟩
abbrev cX10_back : ByteArray := prog_12_method_96_code
def yX10_back : MethodName := ⟨RX10, "back", "()I"⟩
abbrev cX10_sheet : ByteArray := prog_12_method_97_code
def yX10_sheet : MethodName := ⟨RX10, "sheet", "(III)I"⟩
abbrev cX10_cell : ByteArray := prog_12_method_98_code
def yX10_cell : MethodName := ⟨RX10, "cell", "(III)I"⟩
abbrev cX10_copy : ByteArray := prog_12_method_99_code
def yX10_copy : MethodName := ⟨RX10, "copy", "(IIIII)I"⟩
abbrev cX10_gustsBy : ByteArray := prog_12_method_100_code
def yX10_gustsBy : MethodName := ⟨RX10, "gustsBy", "(IIII)I"⟩
abbrev cX10_isUnder : ByteArray := prog_12_method_101_code
def yX10_isUnder : MethodName := ⟨RX10, "isUnder", "(II)Z"⟩
abbrev cX10_taken : ByteArray := prog_12_method_102_code
def yX10_taken : MethodName := ⟨RX10, "taken", "(II)I"⟩
def RJ9 : String := "java/lang/Math"
def TJ9 : u_T := fun k => match k with
  | _ => ("", "", "", false)
def tyJ9 : Nat → FieldType := fun k => match k with
  | _ => .int
abbrev wsJ90 : List Cond := u_ws RJ9 TJ9 0
theorem nmJ9 : ∀ a, a < 0 → ∀ b, b < 0 → a ≠ b → (TJ9 a).2.1 ≠ (TJ9 b).2.1 := by decide +kernel
theorem tyJ9_ok : ∀ k, k < 0 → parseFieldDescriptor (TJ9 k).2.2.1 = some (tyJ9 k) := by decide +kernel
abbrev cJ9_floorMod_7cf53 : ByteArray := prog_13_method_50_code
def yJ9_floorMod_7cf53 : MethodName := ⟨RJ9, "floorMod", "(II)I"⟩
abbrev cJ9_max_7cf53 : ByteArray := prog_13_method_65_code
def yJ9_max_7cf53 : MethodName := ⟨RJ9, "max", "(II)I"⟩
abbrev cJ9_min_7cf53 : ByteArray := prog_13_method_69_code
def yJ9_min_7cf53 : MethodName := ⟨RJ9, "min", "(II)I"⟩
def RJ0 : String := "java/lang/String"
def TJ0 : u_T := fun k => match k with
  | _ => ("", "", "", false)
def tyJ0 : Nat → FieldType := fun k => match k with
  | _ => .int
abbrev wsJ00 : List Cond := u_ws RJ0 TJ0 0
theorem nmJ0 : ∀ a, a < 0 → ∀ b, b < 0 → a ≠ b → (TJ0 a).2.1 ≠ (TJ0 b).2.1 := by decide +kernel
theorem tyJ0_ok : ∀ k, k < 0 → parseFieldDescriptor (TJ0 k).2.2.1 = some (tyJ0 k) := by decide +kernel
abbrev cJ0_length_8abf5 : ByteArray := prog_14_method_54_code
def yJ0_length_8abf5 : MethodName := ⟨RJ0, "length", "()I"⟩
abbrev cJ0_charAt_5068e : ByteArray := prog_14_method_56_code
def yJ0_charAt_5068e : MethodName := ⟨RJ0, "charAt", "(I)C"⟩
abbrev cJ0_coder_7d493 : ByteArray := prog_14_method_152_code
def yJ0_coder_7d493 : MethodName := ⟨RJ0, "coder", "()B"⟩
abbrev cJ0_isLatin1_aae02 : ByteArray := prog_14_method_154_code
def yJ0_isLatin1_aae02 : MethodName := ⟨RJ0, "isLatin1", "()Z"⟩
abbrev cJ0_checkIndex_df160 : ByteArray := prog_14_method_155_code
def yJ0_checkIndex_df160 : MethodName := ⟨RJ0, "checkIndex", "(II)V"⟩
def RJ1 : String := "java/lang/StringLatin1"
def TJ1 : u_T := fun k => match k with
  | _ => ("", "", "", false)
def tyJ1 : Nat → FieldType := fun k => match k with
  | _ => .int
abbrev wsJ10 : List Cond := u_ws RJ1 TJ1 0
theorem nmJ1 : ∀ a, a < 0 → ∀ b, b < 0 → a ≠ b → (TJ1 a).2.1 ≠ (TJ1 b).2.1 := by decide +kernel
theorem tyJ1_ok : ∀ k, k < 0 → parseFieldDescriptor (TJ1 k).2.2.1 = some (tyJ1 k) := by decide +kernel
abbrev cJ1_charAt_3b067 : ByteArray := prog_15_method_2_code
def yJ1_charAt_3b067 : MethodName := ⟨RJ1, "charAt", "([BI)C"⟩
def RJ2 : String := "java/lang/StringUTF16"
def TJ2 : u_T := fun k => match k with
  | _ => ("", "", "", false)
def tyJ2 : Nat → FieldType := fun k => match k with
  | _ => .int
abbrev wsJ20 : List Cond := u_ws RJ2 TJ2 0
theorem nmJ2 : ∀ a, a < 0 → ∀ b, b < 0 → a ≠ b → (TJ2 a).2.1 ≠ (TJ2 b).2.1 := by decide +kernel
theorem tyJ2_ok : ∀ k, k < 0 → parseFieldDescriptor (TJ2 k).2.2.1 = some (tyJ2 k) := by decide +kernel
abbrev cJ2_getChar_3b067 : ByteArray := prog_16_method_5_code
def yJ2_getChar_3b067 : MethodName := ⟨RJ2, "getChar", "([BI)C"⟩
abbrev cJ2_length_9d52b : ByteArray := prog_16_method_6_code
def yJ2_length_9d52b : MethodName := ⟨RJ2, "length", "([B)I"⟩
abbrev cJ2_charAt_3b067 : ByteArray := prog_16_method_83_code
def yJ2_charAt_3b067 : MethodName := ⟨RJ2, "charAt", "([BI)C"⟩
abbrev cJ2_checkIndex_2214a : ByteArray := prog_16_method_91_code
def yJ2_checkIndex_2214a : MethodName := ⟨RJ2, "checkIndex", "(I[B)V"⟩
def RJ10 : String := "java/lang/System"
def TJ10 : u_T := fun k => match k with
  | _ => ("", "", "", false)
def tyJ10 : Nat → FieldType := fun k => match k with
  | _ => .int
abbrev wsJ100 : List Cond := u_ws RJ10 TJ10 0
theorem nmJ10 : ∀ a, a < 0 → ∀ b, b < 0 → a ≠ b → (TJ10 a).2.1 ≠ (TJ10 b).2.1 := by decide +kernel
theorem tyJ10_ok : ∀ k, k < 0 → parseFieldDescriptor (TJ10 k).2.2.1 = some (tyJ10 k) := by decide +kernel
def RJ3 : String := "jdk/internal/util/Preconditions"
def TJ3 : u_T := fun k => match k with
  | _ => ("", "", "", false)
def tyJ3 : Nat → FieldType := fun k => match k with
  | _ => .int
abbrev wsJ30 : List Cond := u_ws RJ3 TJ3 0
theorem nmJ3 : ∀ a, a < 0 → ∀ b, b < 0 → a ≠ b → (TJ3 a).2.1 ≠ (TJ3 b).2.1 := by decide +kernel
theorem tyJ3_ok : ∀ k, k < 0 → parseFieldDescriptor (TJ3 k).2.2.1 = some (tyJ3 k) := by decide +kernel
abbrev cJ3_checkIndex_8e157 : ByteArray := prog_18_method_11_code
def yJ3_checkIndex_8e157 : MethodName := ⟨RJ3, "checkIndex", "(IILjava/util/function/BiFunction;)I"⟩
def RL : String := "HatDownTheStreetLaw"
abbrev cL_law : ByteArray := code
def yL_law : MethodName := ⟨RL, "law", "([I)Z"⟩
abbrev vwCl : List vw_C := [(RX0, TX0, 3), (RX1, TX1, 6), (RX2, TX2, 3), (RX4, TX4, 4), (RX5, TX5, 9), (RX6, TX6, 3), (RX7, TX7, 8), (RX8, TX8, 11), (RX9, TX9, 10), (RX10, TX10, 45)]
/-- an instruction at a place, its length, the place behind it (and where it leads) -/
def hD (cc : ByteArray) (pc : Nat) (i : Instr) (n pc' : Nat) : Prop := decode cc pc = .ok (i, n) ∧ pc + n = pc'
def hJ (cc : ByteArray) (pc : Nat) (i : Instr) (n pc' : Nat) (off : Int) (tgt : Nat) : Prop := decode cc pc = .ok (i, n) ∧ pc + n = pc' ∧ (pc : Int) + off = (tgt : Int)
end
section
/-! THE MEMORY OF A SYSTEM: cells by number, slots by number, an int each; a layout says what each cell is -/
abbrev hMem : Type := Nat → Nat → Int32
def h_up (M : hMem) (k j : Nat) (v : Int32) : hMem := fun a => if a = k then (fun i => if i = j then v else M k i) else M a
theorem h_up_same (M : hMem) (k j : Nat) (v : Int32) : h_up M k j v k j = v := by simp [h_up]
theorem h_up_row (M : hMem) (k j : Nat) (v : Int32) {a : Nat} (h : a ≠ k) : h_up M k j v a = M a := by simp [h_up, h]
theorem h_up_slot (M : hMem) (k j : Nat) (v : Int32) {i : Nat} (a : Nat) (h : i ≠ j) : h_up M k j v a i = M a i := by
  by_cases ha : a = k
  · subst ha; simp [h_up, h]
  · simp [h_up, ha]
/-- what each cell is (its kind, its length), to which cell each fixed reference leads, how many cells -/
abbrev hLay : Type := (Nat → Nat × Nat) × (Nat → Nat → Nat) × Nat
abbrev hDD : Type := va_G × (Nat → ClassId) × Nat × (Nat → Nat) × (Nat → Nat)
def h_nf (t : Nat) : Nat := match t with
  | 0 => 3 | 1 => 6 | 2 => 3 | 3 => 4 | 4 => 9 | 5 => 3 | 6 => 8 | 7 => 11 | 8 => 10 | 9 => 45 | _ => 0
/-- a field's sort: 0 a number, 1 a fixed reference, 2 a reference that changes -/
def h_kd (t j : Nat) : Nat := match t with
  | 1 => (match j with | 0 => 1 | _ => 0)
  | 3 => (match j with | 3 => 0 | _ => 1)
  | 4 => (match j with | 0 => 0 | 5 => 0 | 6 => 0 | 7 => 0 | 8 => 2 | _ => 1)
  | 5 => (match j with | 2 => 1 | _ => 0)
  | 6 => (match j with | 5 => 0 | 6 => 0 | 7 => 0 | _ => 1)
  | 7 => (match j with | 6 => 2 | 7 => 1 | 8 => 1 | 9 => 1 | 10 => 1 | _ => 0)
  | 8 => (match j with | 2 => 0 | 4 => 0 | _ => 1)
  | 9 => (match j with | 3 => 0 | 8 => 0 | 11 => 0 | 14 => 0 | 15 => 0 | 16 => 0 | 17 => 0 | 18 => 0 | 19 => 0 | 25 => 0 | 26 => 0 | 27 => 0 | 28 => 0 | 31 => 0 | 32 => 0 | 33 => 0 | 36 => 0 | 37 => 0 | 38 => 0 | 39 => 0 | _ => 1)
  | _ => 0
/-- a reference that leads to cell 0 is null: no cell leads there -/
def h_val (b : Nat) (rf : Nat → Nat → Nat) (t k j : Nat) (v : Int32) : Value := if h_kd t j = 0 then .int v else if h_kd t j = 1 then (if rf k j = 0 then .null else .ref (b + rf k j)) else (if v = 0 then .null else .ref (b + v.toNatClampNeg))
def h_cell (Y : hLay) (cy : Nat → ClassId) (b : Nat) (M : hMem) (k : Nat) : va_E :=
  if (Y.1 k).1 < 10 then .inr ((Y.1 k).1, (List.range (h_nf (Y.1 k).1)).map (fun j => h_val b Y.2.1 (Y.1 k).1 k j (M k j)))
  else if (Y.1 k).1 = 10 then .inl (cy 10, (Y.1 k).2, .inl (M k))
  else .inl (cy (Y.1 k).1, (Y.1 k).2, .inr (.inr (.inr (.inr (fun j => if Y.2.1 k j = 0 then none else some (b + Y.2.1 k j))))))
def h_pw (Y : hLay) (cy : Nat → ClassId) (b : Nat) (M : hMem) : va_W := (List.range Y.2.2).map fun k => (b + k, h_cell Y cy b M k)
def h_A (b : Nat) (Y : hLay) : Nat → Prop := fun q => b ≤ q ∧ q < b + Y.2.2
theorem h_pw_get (Y : hLay) (cy : Nat → ClassId) (b : Nat) (M : hMem) {k : Nat} (h : k < Y.2.2) : (h_pw Y cy b M)[k]? = some (b + k, h_cell Y cy b M k) := by
  unfold h_pw
  rw [List.getElem?_map, List.getElem?_range h]
  rfl
theorem h_pw_at {Y : hLay} {cy : Nat → ClassId} {b : Nat} {M : hMem} {i : Nat} {q : Nat × va_E} (h : (h_pw Y cy b M)[i]? = some q) : i < Y.2.2 ∧ q = (b + i, h_cell Y cy b M i) := by
  have hi : i < Y.2.2 := by
    have := (List.getElem?_eq_some_iff.mp h).1
    simpa [h_pw] using this
  rw [h_pw_get Y cy b M hi] at h
  exact ⟨hi, (Option.some.inj h).symm⟩
theorem h_pw_D (Y : hLay) (cy : Nat → ClassId) (b : Nat) (M : hMem) : va_D (h_A b Y) (h_pw Y cy b M) := by
  refine ⟨fun i j p q hi hj he => ?_, fun k q hk => ?_⟩
  · obtain ⟨-, rfl⟩ := h_pw_at hi
    obtain ⟨-, rfl⟩ := h_pw_at hj
    simp only at he
    omega
  · obtain ⟨h, rfl⟩ := h_pw_at hk
    exact ⟨Nat.le_add_right _ _, by simp only; omega⟩
theorem h_cell_row (Y : hLay) (cy : Nat → ClassId) (b : Nat) {M M' : hMem} {k : Nat} (h : M' k = M k) : h_cell Y cy b M' k = h_cell Y cy b M k := by
  unfold h_cell
  rw [h]
theorem h_pw_set (Y : hLay) (cy : Nat → ClassId) (b : Nat) (M : hMem) {M' : hMem} {k : Nat} {x : Nat × va_E} (hx : x = (b + k, h_cell Y cy b M' k)) (h : ∀ a, a ≠ k → M' a = M a) : (h_pw Y cy b M).set k x = h_pw Y cy b M' := by
  subst hx
  apply List.ext_getElem?
  intro i
  by_cases hik : i = k
  · subst hik
    by_cases hi : i < Y.2.2
    · rw [List.getElem?_set_self (by simpa [h_pw] using hi), h_pw_get Y cy b M' hi]
    · rw [List.getElem?_eq_none (by simp [h_pw]; omega), List.getElem?_eq_none (by simp [h_pw]; omega)]
  · rw [List.getElem?_set_ne (Ne.symm hik)]
    by_cases hi : i < Y.2.2
    · rw [h_pw_get Y cy b M hi, h_pw_get Y cy b M' hi, h_cell_row Y cy b (h i hik)]
    · rw [List.getElem?_eq_none (by simp [h_pw]; omega), List.getElem?_eq_none (by simp [h_pw]; omega)]
theorem h_cell_obj {Y : hLay} {cy : Nat → ClassId} {b : Nat} {M : hMem} {k t : Nat} (h : (Y.1 k).1 = t) (ht : t < 10) : h_cell Y cy b M k = .inr (t, (List.range (h_nf t)).map (fun j => h_val b Y.2.1 t k j (M k j))) := by
  subst h
  unfold h_cell
  rw [if_pos ht]
theorem h_cell_int {Y : hLay} {cy : Nat → ClassId} {b : Nat} {M : hMem} {k n : Nat} (h : Y.1 k = (10, n)) : h_cell Y cy b M k = .inl (cy 10, n, .inl (M k)) := by
  unfold h_cell
  rw [h, if_neg (by simp), if_pos rfl]
theorem h_cell_ref {Y : hLay} {cy : Nat → ClassId} {b : Nat} {M : hMem} {k t n : Nat} (h : Y.1 k = (t, n)) (ht : 10 < t) : h_cell Y cy b M k = .inl (cy t, n, .inr (.inr (.inr (.inr (fun j => if Y.2.1 k j = 0 then none else some (b + Y.2.1 k j)))))) := by
  unfold h_cell
  rw [h, if_neg (by simp only; omega), if_neg (by simp only; omega)]
/-- the array classes -/
def h_tys (cy : Nat → ClassId) : List (ClassId × FieldType) := [(cy 10, .int), (cy 11, .object "HatDownTheStreet$Hat"), (cy 12, .object "HatDownTheStreet$Catcher"), (cy 13, .object "HatDownTheStreet$Law"), (cy 14, .object "HatDownTheStreet$Sheet"), (cy 15, .array .int)]
/-- the private names that nest mates use -/
def h_nest : List (String × Nat × MethodName × String) := [("HatDownTheStreet$Street", 33, ⟨"HatDownTheStreet$Hat", "<init>", "()V"⟩, "HatDownTheStreet"), ("HatDownTheStreet$Street", 34, ⟨"HatDownTheStreet$Catcher", "<init>", "()V"⟩, "HatDownTheStreet"), ("HatDownTheStreet", 35, ⟨"HatDownTheStreet$Reader", "<init>", "()V"⟩, "HatDownTheStreet"), ("HatDownTheStreet$Reader", 30, ⟨"HatDownTheStreet$Law", "<init>", "()V"⟩, "HatDownTheStreet"), ("HatDownTheStreet", 48, ⟨"HatDownTheStreet$Thought", "<init>", "()V"⟩, "HatDownTheStreet"), ("HatDownTheStreet$Thought", 11, ⟨"HatDownTheStreet$Law", "<init>", "()V"⟩, "HatDownTheStreet"), ("HatDownTheStreet", 55, ⟨"HatDownTheStreet$Errand", "<init>", "()V"⟩, "HatDownTheStreet"), ("HatDownTheStreet", 64, ⟨"HatDownTheStreet$Law", "<init>", "()V"⟩, "HatDownTheStreet"), ("HatDownTheStreet", 65, ⟨"HatDownTheStreet$Sheet", "<init>", "()V"⟩, "HatDownTheStreet"), ("HatDownTheStreet$Street", 61, ⟨"HatDownTheStreet", "squareOf", "(I)I"⟩, "HatDownTheStreet"), ("HatDownTheStreet$Thought", 78, ⟨"HatDownTheStreet", "lieOf", "(I)I"⟩, "HatDownTheStreet"), ("HatDownTheStreet$Thought", 82, ⟨"HatDownTheStreet", "squareOf", "(I)I"⟩, "HatDownTheStreet"), ("HatDownTheStreet$Law", 40, ⟨"HatDownTheStreet", "bounded", "(III)I"⟩, "HatDownTheStreet"), ("HatDownTheStreet$Thought", 89, ⟨"HatDownTheStreet", "isSecond", "(I)Z"⟩, "HatDownTheStreet"), ("HatDownTheStreet$Kinds", 15, ⟨"HatDownTheStreet", "bounded", "(III)I"⟩, "HatDownTheStreet"), ("HatDownTheStreet$Thought", 126, ⟨"HatDownTheStreet", "isSquare", "(I)Z"⟩, "HatDownTheStreet"), ("HatDownTheStreet$Thought", 120, ⟨"HatDownTheStreet", "stateOf", "(II)I"⟩, "HatDownTheStreet"), ("HatDownTheStreet$Errand", 43, ⟨"HatDownTheStreet", "isSooner", "(II)Z"⟩, "HatDownTheStreet"), ("HatDownTheStreet$Errand", 53, ⟨"HatDownTheStreet", "squareOf", "(I)I"⟩, "HatDownTheStreet")]
def h_Nst (U : State) : Prop := ∀ q ∈ h_nest, va_Nw (.methodLinkNest q.1 q.2.1 q.2.2.1 q.2.2.2) U
theorem h_Nst.moved {s U : State} (hW : s.WarmedH U.vm) (h : h_Nst s) : h_Nst U := fun q hq => va_Nw.warmM hW (h q hq)
def h_abvI (j : Nat) : Int32 := match j with | 0 => -1 | 1 => 0 | 2 => 0 | 3 => 1 | 4 => 2 | _ => 0
def h_abv (j : Nat) : Value := .int (h_abvI j)
def h_txts : List (String × Nat × String) := [("HatDownTheStreet", 66, "goes strength ; turns 1 ; worth 30 - second ;"), ("HatDownTheStreet$Reader", 130, "strength"), ("HatDownTheStreet$Reader", 136, "lie"), ("HatDownTheStreet$Reader", 138, "more"), ("HatDownTheStreet$Reader", 140, "second"), ("HatDownTheStreet$Reader", 142, "cell"), ("HatDownTheStreet$Reader", 144, "kind"), ("HatDownTheStreet$Reader", 146, "goes"), ("HatDownTheStreet$Reader", 148, "turns"), ("HatDownTheStreet$Reader", 150, "worth"), ("HatDownTheStreet$Reader", 152, "or"), ("HatDownTheStreet$Reader", 154, "and"), ("HatDownTheStreet$Reader", 156, "not")]
def h_lens : List Nat := [45, 8, 3, 4, 6, 4, 4, 4, 5, 5, 2, 3, 3]
def h_byts : List (List Int32) := [[103, 111, 101, 115, 32, 115, 116, 114, 101, 110, 103, 116, 104, 32, 59, 32, 116, 117, 114, 110, 115, 32, 49, 32, 59, 32, 119, 111, 114, 116, 104, 32, 51, 48, 32, 45, 32, 115, 101, 99, 111, 110, 100, 32, 59], [115, 116, 114, 101, 110, 103, 116, 104], [108, 105, 101], [109, 111, 114, 101], [115, 101, 99, 111, 110, 100], [99, 101, 108, 108], [107, 105, 110, 100], [103, 111, 101, 115], [116, 117, 114, 110, 115], [119, 111, 114, 116, 104], [111, 114], [97, 110, 100], [110, 111, 116]]
/-- what lies outside: the static row ABOVE, the constant texts, two statics of the JDK's -/
def h_Ex (dd : hDD) (A : Nat → Prop) (U : State) (H : Heap) : Prop :=
  va_Z "HatDownTheStreet$Kinds" "ABOVE" "[I" (.ref dd.2.2.1) A U H ∧ va_T .int dd.2.2.1 6 h_abv A U H ∧ vk_S 13 h_lens h_byts dd.2.2.2.1 dd.2.2.2.2 A U H ∧
  va_Z "java/lang/String" "COMPACT_STRINGS" "Z" (.int 1) A U H ∧ ∃ o : Option Nat, va_Z "jdk/internal/util/Preconditions" "SIOOBE_FORMATTER" "Ljava/util/function/BiFunction;" (va_rf o) A U H
theorem h_Ex.moved {dd : hDD} {A : Nat → Prop} {u U : State} {H : Heap} (hvm : u.vm.Alike U.vm) (h : h_Ex dd A u H) : h_Ex dd A U H := ⟨h.1.moved hvm, h.2.1.moved hvm, h.2.2.1.moved hvm, h.2.2.2.1.moved hvm, h.2.2.2.2.imp fun _ q => q.moved hvm⟩
theorem h_Ex.kept {dd : hDD} {A : Nat → Prop} {U : State} {H H1 : Heap} (h : h_Ex dd A U H) (hq : ∀ a : Nat, a < H.size → ¬ A a → H1[a]? = H[a]?) : h_Ex dd A U H1 := ⟨h.1.kept hq, h.2.1.kept hq, h.2.2.1.kept hq, h.2.2.2.1.kept hq, h.2.2.2.2.imp fun _ q => q.kept hq⟩
theorem h_Ex.narrow {dd : hDD} {A B : Nat → Prop} {U : State} {H : Heap} (h : h_Ex dd A U H) (hAB : ∀ q, B q → A q) : h_Ex dd B U H := ⟨h.1.narrow hAB, h.2.1.narrow hAB, h.2.2.1.narrow hAB, h.2.2.2.1.narrow hAB, h.2.2.2.2.imp fun _ q => q.narrow hAB⟩
def h_Tx (dd : hDD) (U : State) : Prop := ∀ (i : Nat) (q : String × Nat × String), h_txts[i]? = some q → vk_R q.1 q.2.1 q.2.2 (dd.2.2.2.1 i) U
theorem h_Tx.moved {dd : hDD} {s U : State} (hW : s.WarmedH U.vm) (h : h_Tx dd s) : h_Tx dd U := fun i q hq => vk_R.warm hW (h i q hq)
/-- the words that hold on in every state behind -/
def h_tbl : List Cond := lw_tbl.filter goodWord
theorem h_in {w : Cond} (i : Nat) (h : lw_tbl[i]? = some w) (hg : goodWord w = true) : w ∈ h_tbl := List.mem_filter.mpr ⟨List.mem_of_getElem? h, hg⟩
theorem h_goodIn {c1 c2 : Cond} (h : c2 ∈ h_tbl) : GoodIn (c1 :: h_tbl) (c2 :: h_tbl) := by
  intro w hw
  have hm : w ∈ h_tbl := by
    rcases List.mem_cons.mp hw with rfl | h1
    · exact h
    · exact h1
  exact ⟨List.mem_cons_of_mem _ hm, good_of_word (List.mem_filter.mp hm).2⟩
theorem h_goodT {c2 : Cond} (h : c2 ∈ h_tbl) : GoodIn h_tbl (c2 :: h_tbl) := by
  intro w hw
  have hm : w ∈ h_tbl := by
    rcases List.mem_cons.mp hw with rfl | h1
    · exact h
    · exact h1
  exact ⟨hm, good_of_word (List.mem_filter.mp hm).2⟩
def h_rm (d : Nat) : Room := { frames := d, cells := 0, slots := 0, locals := 64 * d }
/-- a state that holds the memory M, and the tables -/
def h_St (Y : hLay) (dd : hDD) (b : Nat) (M : hMem) (U : State) : Prop :=
  va_P dd.1 vwCl (h_pw Y dd.2.1 b M) U.heap ∧ va_K dd.1 vwCl (h_tys dd.2.1) U ∧ h_Nst U ∧ h_Ex dd (h_A b Y) U U.heap ∧ h_Tx dd U
/-- the end of a method: what it returns, and the memory then -/
def h_Q (Y : hLay) (dd : hDD) (b : Nat) (q : Option Value × hMem) : Array Value → State → Outcome → State → Prop := fun _ st o t =>
  o = .returned q.1 ∧ va_P dd.1 vwCl (h_pw Y dd.2.1 b q.2) t.heap ∧ va_F (h_A b Y) st t
/-- A CONTRACT: from memory M, with these arguments, to q -/
def hC (l : Launch) (Y : hLay) (dd : hDD) (b : Nat) (y : MethodName) (bytes : ByteArray) (maxL : Nat) (ret : Option FieldType) (d : Nat) (av : List Value) (M : hMem) (q : Option Value × hMem) : Prop :=
  Met l y (Cond.code y bytes maxL ret :: h_tbl) (h_rm d) (va_Pc av (h_St Y dd b M)) (h_Q Y dd b q) 0 0 (h_A b Y)
/-- where a method stands -/
abbrev hZ : Type := (hLay × hDD × Nat) × (Program × Launch × Env × Room × State) × (MethodId × Array Value × List Frame × Method × Code) × Nat
abbrev h_b (Z : hZ) : Nat := Z.1.2.2
abbrev h_Y (Z : hZ) : hLay := Z.1.1
abbrev h_d (Z : hZ) : hDD := Z.1.2.1
abbrev h_l (Z : hZ) : Launch := Z.2.1.2.1
def h_W (Z : hZ) {α : Type} (rt : α → Option Value × hMem) (r : α) (H : Heap) (locs : List Loc) (g : JFrame) : Prop :=
  W Z.2.1.1 Z.2.1.2.1 Z.2.1.2.2.1 Z.2.1.2.2.2.1 Z.2.1.2.2.2.2 Z.2.2.1.1 Z.2.2.1.2.1 Z.2.2.1.2.2.1 Z.2.2.1.2.2.2.1 Z.2.2.1.2.2.2.2 H locs 0 0 (MQ Z.2.2.1.2.2.1 (h_Q Z.1.1 Z.1.2.1 Z.1.2.2 (rt r)) Z.2.2.1.2.1 Z.2.1.2.2.2.2 0 0 (h_A Z.1.2.2 Z.1.1)) g
/-- THE JUDGEMENT: from here, with memory M, locals L, stack st, the method comes to its end with what F says -/
def hW (Z : hZ) {α : Type} (rt : α → Option Value × hMem) (M : hMem) (pc : Nat) (L : List (Nat × Value)) (st : List Value) (F : Option α) : Prop :=
  ∀ r : α, F = some r → ∀ (H : Heap) (locs : List Loc) (ls : Array Slot), va_P Z.1.2.1.1 vwCl (h_pw Z.1.1 Z.1.2.1.2.1 Z.1.2.2 M) H → va_S (h_A Z.1.2.2 Z.1.1) Z.2.1.2.2.2.2.heap H locs → lv_has ls Z.2.2.2 L → h_W Z rt r H locs (F0 Z.2.2.1.1 pc ls st)
def hOK (Z : hZ) (Y : hLay) (cc : ByteArray) (own : String) (nL d : Nat) (ret : Option FieldType) : Prop :=
  Z.2.1.1.tables.exec = Jvm.exec ∧ Z.2.2.1.2.2.2.2.code = cc ∧ Z.2.2.1.2.2.2.2.maxLocals = Z.2.2.2 ∧ Z.2.2.1.2.2.2.1.sig.returnType = ret ∧ Z.2.1.2.2.2.2.vm.findClass own = some Z.2.2.1.1.cls ∧ (∀ w ∈ h_tbl, w.before Z.2.2.1.2.1 Z.2.1.2.2.2.2 = true) ∧
  va_K Z.1.2.1.1 vwCl (h_tys Z.1.2.1.2.1) Z.2.1.2.2.2.2 ∧ h_Nst Z.2.1.2.2.2.2 ∧ h_Ex Z.1.2.1 (h_A Z.1.2.2 Z.1.1) Z.2.1.2.2.2.2 Z.2.1.2.2.2.2.heap ∧ h_Tx Z.1.2.1 Z.2.1.2.2.2.2 ∧ Z.2.2.1.2.2.2.1.locks = false ∧ (d ≤ Z.2.1.2.2.2.1.frames ∧ 64 * d ≤ Z.2.1.2.2.2.1.locals) ∧ Z.1.1 = Y ∧ Z.2.2.2 = nL
/-- a cell is of a kind, and so long -/
def h_is (Y : hLay) (k t n : Nat) : Prop := k < Y.2.2 ∧ Y.1 k = (t, n)
/-- an index within a row -/
abbrev h_ib (i : Int32) (n : Nat) : Prop := 0 ≤ i ∧ i.toNatClampNeg < n
theorem h_ib.vp {i : Int32} {n : Nat} (h : h_ib i n) : vp_in i n := fun q => q.elim (fun a => absurd h.1 (Int32.not_le.mpr a)) (fun a => Nat.not_le.mpr h.2 a)
/-- a field link of a class: the class's number, the field's -/
def h_FL (own : String) (idx ci j : Nat) : Prop := ∃ (C : String) (T : u_T) (ty : Nat → FieldType), vwCl[ci]? = some (C, T, h_nf ci) ∧ ci < 10 ∧ j < h_nf ci ∧ Cond.fieldLink own idx (T j).1 (T j).2.1 (T j).2.2.1 ∈ h_tbl ∧ (∀ w ∈ u_ws C T (h_nf ci), w ∈ h_tbl) ∧ (∀ k, k < h_nf ci → parseFieldDescriptor (T k).2.2.1 = some (ty k)) ∧ (∀ a, a < h_nf ci → ∀ b, b < h_nf ci → a ≠ b → (T a).2.1 ≠ (T b).2.1)
/-- one that may be written, of a type -/
def h_FP (own : String) (idx ci j : Nat) (tj : FieldType) : Prop := ∃ (C : String) (T : u_T) (ty : Nat → FieldType), vwCl[ci]? = some (C, T, h_nf ci) ∧ ci < 10 ∧ j < h_nf ci ∧ Cond.fieldLink own idx (T j).1 (T j).2.1 (T j).2.2.1 ∈ h_tbl ∧ (∀ w ∈ u_ws C T (h_nf ci), w ∈ h_tbl) ∧ (∀ k, k < h_nf ci → parseFieldDescriptor (T k).2.2.1 = some (ty k)) ∧ (∀ a, a < h_nf ci → ∀ b, b < h_nf ci → a ≠ b → (T a).2.1 ≠ (T b).2.1) ∧ (T j).2.2.2 = false ∧ parseFieldDescriptor (T j).2.2.1 = some tj
def h_M0 (y : MethodName) (bytes : ByteArray) (maxL : Nat) (ret : Option FieldType) (np : Nat) : Prop := Cond.code y bytes maxL ret ∈ h_tbl ∧ Cond.initialized y.cls ∈ h_tbl ∧ (y.cls ≠ "java/lang/invoke/MethodHandle" ∧ y.cls ≠ "java/lang/invoke/VarHandle" ∧ (parseMethodDescriptor y.desc).map (fun d => d.parameters.length) = some np) ∧ maxL ≤ 40
/-- links of methods: static; virtual; static of a nest mate -/
def h_MS (own : String) (idx : Nat) (y : MethodName) (bytes : ByteArray) (maxL : Nat) (ret : Option FieldType) (np : Nat) : Prop := h_M0 y bytes maxL ret np ∧ Cond.methodLink own idx y ∈ h_tbl ∧ Cond.static y ∈ h_tbl
def h_MV (own : String) (idx : Nat) (y : MethodName) (bytes : ByteArray) (maxL : Nat) (ret : Option FieldType) (np : Nat) : Prop := h_M0 y bytes maxL ret np ∧ Cond.methodLink own idx y ∈ h_tbl ∧ Cond.instanceMethod y ∈ h_tbl ∧ Cond.selects y.cls y y ∈ h_tbl
def h_MN (own : String) (idx : Nat) (y : MethodName) (bytes : ByteArray) (maxL : Nat) (ret : Option FieldType) (np : Nat) (host : String) : Prop := h_M0 y bytes maxL ret np ∧ (own, idx, y, host) ∈ h_nest ∧ Cond.static y ∈ h_tbl
/-- a loop: the body says what is done by how the rest goes on -/
def h_lp {σ ρ : Type} (body : (σ → Option ρ) → σ → Option ρ) : Nat → σ → Option ρ
  | 0, _ => none
  | n + 1, s => body (h_lp body n) s
def h_FU : Nat := 20000
/-- the plain judgement: whatever holds of heap and writes, from here to Q -/
def hB (Z : hZ) (Q : State → Prop) (I : Heap → List Loc → Prop) (cs ss pc : Nat) (L : List (Nat × Value)) (st : List Value) : Prop :=
  ∀ (H : Heap) (locs : List Loc) (ls : Array Slot), I H locs → lv_has ls Z.2.2.2 L → W Z.2.1.1 Z.2.1.2.1 Z.2.1.2.2.1 Z.2.1.2.2.2.1 Z.2.1.2.2.2.2 Z.2.2.1.1 Z.2.2.1.2.1 Z.2.2.1.2.2.1 Z.2.2.1.2.2.2.1 Z.2.2.1.2.2.2.2 H locs cs ss Q (F0 Z.2.2.1.1 pc ls st)
def hOKb (Z : hZ) (cc : ByteArray) (own : String) (nL d : Nat) (ret : Option FieldType) : Prop :=
  Z.2.1.1.tables.exec = Jvm.exec ∧ Z.2.2.1.2.2.2.2.code = cc ∧ Z.2.2.1.2.2.2.2.maxLocals = Z.2.2.2 ∧ Z.2.2.1.2.2.2.1.sig.returnType = ret ∧ Z.2.1.2.2.2.2.vm.findClass own = some Z.2.2.1.1.cls ∧ (∀ w ∈ h_tbl, w.before Z.2.2.1.2.1 Z.2.1.2.2.2.2 = true) ∧
  Z.2.2.1.2.2.2.1.locks = false ∧ (d ≤ Z.2.1.2.2.2.1.frames ∧ 64 * d ≤ Z.2.1.2.2.2.1.locals) ∧ Z.2.2.2 = nL
def h_rem (x y : Int32) : Int32 := x - x / y * y
def h_lrem (x y : Int64) : Int64 := x - x / y * y
def h_ushr (x y : Int32) : Int32 := (x.toUInt32 >>> (y.toUInt32 &&& Int32.toUInt32 31)).toInt32
def h_slen (w : Nat) : Int32 := Int32.ofNat (h_lens.getD w 0)
def h_sch (w j : Nat) : Int32 := (h_byts.getD w []).getD j 0
def h_cpb (sp dp n : Int32) (n0 n1 : Nat) : Bool := decide (0 ≤ sp) && (decide (0 ≤ dp) && (decide (0 ≤ n) && (Nat.ble (sp.toNatClampNeg + n.toNatClampNeg) n0 && Nat.ble (dp.toNatClampNeg + n.toNatClampNeg) n1)))
def h_cp (M : hMem) (src : Nat) (sp : Int32) (dst : Nat) (dp n : Int32) : hMem := fun a => if a = dst then va_cpy (M src) (M dst) sp.toNatClampNeg dp.toNatClampNeg n.toNatClampNeg else M a
def h_scb (w : Nat) (i : Int32) : Bool := decide (w < 13) && (decide (0 ≤ i) && Nat.blt i.toNatClampNeg (h_lens.getD w 0))
def h_isB (Y : hLay) (k t n : Nat) : Bool := Nat.blt k Y.2.2 && ((Y.1 k).1 == t && (Y.1 k).2 == n)
theorem h_forall {N : Nat} {p : Nat → Bool} (h : (List.range N).all p = true) {k : Nat} (hk : k < N) : p k = true := List.all_eq_true.mp h k (List.mem_range.mpr hk)
def hYx_sh : List (Nat × Nat) := [(8, 0), (6, 0), (10, 3), (10, 24), (10, 24), (11, 4), (12, 4), (2, 0), (2, 0), (2, 0), (2, 0), (0, 0), (0, 0), (0, 0), (0, 0), (6, 0), (10, 3), (10, 24), (10, 24), (11, 4), (12, 4), (2, 0), (2, 0), (2, 0), (2, 0), (0, 0), (0, 0), (0, 0), (0, 0), (13, 6), (4, 0), (10, 160), (10, 161), (10, 161), (10, 161), (3, 0), (10, 160), (10, 3), (10, 40), (14, 4), (7, 0), (3, 0), (10, 160), (10, 3), (10, 40), (10, 24), (10, 24), (10, 25), (10, 6), (1, 0), (15, 4), (10, 25), (10, 25), (10, 25), (10, 25), (10, 96), (3, 0), (10, 160), (10, 3), (10, 40), (3, 0), (10, 160), (10, 3), (10, 40), (3, 0), (10, 160), (10, 3), (10, 40), (3, 0), (10, 160), (10, 3), (10, 40), (3, 0), (10, 160), (10, 3), (10, 40), (3, 0), (10, 160), (10, 3), (10, 40), (5, 0), (10, 40), (5, 0), (10, 40), (5, 0), (10, 40), (5, 0), (10, 40)]
def hYx_rf (k j : Nat) : Nat := match k with
  | 0 => (match j with | 0 => 1 | 1 => 15 | 3 => 29 | 5 => 30 | 6 => 39 | 7 => 40 | 8 => 49 | 9 => 55 | _ => 0)
  | 1 => (match j with | 0 => 2 | 1 => 3 | 2 => 4 | 3 => 5 | 4 => 6 | _ => 0)
  | 5 => 7 + j
  | 6 => 11 + j
  | 15 => (match j with | 0 => 16 | 1 => 17 | 2 => 18 | 3 => 19 | 4 => 20 | _ => 0)
  | 19 => 21 + j
  | 20 => 25 + j
  | 29 => 56 + 4 * j
  | 30 => (match j with | 1 => 31 | 2 => 32 | 3 => 33 | 4 => 34 | _ => 0)
  | 35 => (match j with | 0 => 36 | 1 => 37 | 2 => 38 | _ => 0)
  | 39 => 80 + 2 * j
  | 40 => (match j with | 7 => 45 | 8 => 46 | 9 => 47 | 10 => 48 | _ => 0)
  | 41 => (match j with | 0 => 42 | 1 => 43 | 2 => 44 | _ => 0)
  | 49 => (match j with | 0 => 50 | _ => 0)
  | 50 => 51 + j
  | 56 => (match j with | 0 => 57 | 1 => 58 | 2 => 59 | _ => 0)
  | 60 => (match j with | 0 => 61 | 1 => 62 | 2 => 63 | _ => 0)
  | 64 => (match j with | 0 => 65 | 1 => 66 | 2 => 67 | _ => 0)
  | 68 => (match j with | 0 => 69 | 1 => 70 | 2 => 71 | _ => 0)
  | 72 => (match j with | 0 => 73 | 1 => 74 | 2 => 75 | _ => 0)
  | 76 => (match j with | 0 => 77 | 1 => 78 | 2 => 79 | _ => 0)
  | 80 => (match j with | 2 => 81 | _ => 0)
  | 82 => (match j with | 2 => 83 | _ => 0)
  | 84 => (match j with | 2 => 85 | _ => 0)
  | 86 => (match j with | 2 => 87 | _ => 0)
  | _ => 0
def hYx : hLay := (fun k => hYx_sh.getD k (99, 0), hYx_rf, 88)
def hYm_sh : List (Nat × Nat) := [(9, 0), (10, 3), (10, 24), (10, 24), (10, 4), (10, 4), (10, 4), (10, 4), (10, 12), (10, 160), (10, 1200), (10, 24), (10, 79), (10, 4), (10, 4), (10, 160), (10, 45), (10, 96), (10, 200), (10, 200), (10, 6), (10, 96), (10, 32), (10, 32), (10, 24), (10, 24)]
def hYm_rf (k j : Nat) : Nat := match k with
  | 0 => (match j with | 0 => 1 | 1 => 2 | 2 => 3 | 4 => 4 | 5 => 5 | 6 => 6 | 7 => 7 | 9 => 8 | 10 => 9 | 12 => 10 | 13 => 11 | 20 => 12 | 21 => 13 | 22 => 14 | 23 => 15 | 24 => 16 | 29 => 17 | 30 => 18 | 34 => 19 | 35 => 20 | 40 => 21 | 41 => 22 | 42 => 23 | 43 => 24 | 44 => 25 | _ => 0)
  | _ => 0
def hYm : hLay := (fun k => hYm_sh.getD k (99, 0), hYm_rf, 26)
end
section
def fX5_put (a1 : Int32) (M : hMem) : Option hMem := if 160 ≤ (M 30 0) then (some M) else (if h_ib (M 30 0) 160 then (some (h_up (h_up M 31 (M 30 0).toNatClampNeg a1) 30 0 (((h_up M 31 (M 30 0).toNatClampNeg a1) 30 0) + 1))) else none)
def fX4_clear (a0 : Nat) (M : hMem) : Option hMem := if h_isB hYx a0 3 0 = true then (some (h_up M a0 3 0)) else none
def fX5_advance  (M : hMem) : Option hMem := if 160 ≤ (M 30 5) then (if h_ib (M 30 5) 161 then (some (h_up M 30 6 (M 32 (M 30 5).toNatClampNeg))) else none) else (if h_ib ((h_up M 30 5 ((M 30 5) + 1)) 30 5) 161 then (some (h_up (h_up M 30 5 ((M 30 5) + 1)) 30 6 ((h_up M 30 5 ((M 30 5) + 1)) 32 ((h_up M 30 5 ((M 30 5) + 1)) 30 5).toNatClampNeg))) else none)
def fX5_refuse  (M : hMem) : Option hMem := if 0 ≤ (M 30 7) then (some (h_up M 30 6 1)) else (if h_ib (M 30 5) 161 then (some (h_up (h_up M 30 7 (M 33 (M 30 5).toNatClampNeg)) 30 6 1)) else none)
def fX5_expect (a1 : Int32) (M : hMem) : Option hMem := if (M 30 6) = a1 then ((fX5_advance M).bind fun q9 => some q9) else ((fX5_refuse M).bind fun q16 => some q16)
def fX5_byteAt (a1 : Int32) (M : hMem) : Option Int32 := if a1 < 0 then (some (-1)) else (if (M 30 0) ≤ a1 then (some (-1)) else (if h_ib a1 160 then (some (M 31 a1.toNatClampNeg)) else none))
def fX5_behindBlanks_L4   (M : hMem) (k4 : (Int32 × Int32) → Option Int32) (s : Int32 × Int32) : Option Int32 := if 160 ≤ s.2 then (some s.1) else ((fX5_byteAt s.1 M).bind fun q13 => if q13 = 32 then (k4 (s.1 + 1, s.2 + 1)) else ((fX5_byteAt s.1 M).bind fun q23 => if q23 = 10 then (k4 (s.1 + 1, s.2 + 1)) else (some s.1)))
def fX5_behindBlanks (a1 : Int32) (M : hMem) : Option Int32 := h_lp (fX5_behindBlanks_L4 M) h_FU (a1, 0)
def fX5_isDigit (a0 : Int32) (M : hMem) : Int32 := if a0 < 48 then 0 else (if 57 < a0 then 0 else 1)
def fX5_isLetter (a0 : Int32) (M : hMem) : Int32 := if a0 < 97 then 0 else (if 122 < a0 then 0 else 1)
def fX5_isSign (a0 : Int32) (M : hMem) : Int32 := if a0 = 40 then 1 else (if a0 = 41 then 1 else (if a0 = 59 then 1 else (if a0 = 43 then 1 else (if a0 = 45 then 1 else (if a0 = 42 then 1 else (if a0 = 60 then 1 else (if a0 = 61 then 1 else 0)))))))
def fX5_isWord_L15  (v1 : Nat) (v2 : Int32) (M : hMem) (k15 : Int32 → Option Int32) (s : Int32) : Option Int32 := if v1 < 13 then (if (h_slen v1) ≤ s then (some 1) else ((fX5_byteAt (v2 + s) M).bind fun q29 => if h_scb v1 s = true then (if q29 = (h_sch v1 s.toNatClampNeg) then (k15 (s + 1)) else (some 0)) else none)) else none
def fX5_isWord (a1 : Nat) (a2 : Int32) (a3 : Int32) (M : hMem) : Option Int32 := if a1 < 13 then (if (a3 - a2) = (h_slen a1) then (h_lp (fX5_isWord_L15 a1 a2 M) h_FU 0) else (some 0)) else none
def fX5_keyBetween (a1 : Int32) (a2 : Int32) (M : hMem) : Option Int32 := (fX5_isWord 7 a1 a2 M).bind fun q5 => if q5 = 0 then ((fX5_isWord 8 a1 a2 M).bind fun q20 => if q20 = 0 then ((fX5_isWord 9 a1 a2 M).bind fun q35 => if q35 = 0 then ((fX5_isWord 10 a1 a2 M).bind fun q51 => if q51 = 0 then ((fX5_isWord 11 a1 a2 M).bind fun q67 => if q67 = 0 then ((fX5_isWord 12 a1 a2 M).bind fun q83 => if q83 = 0 then (some 1) else (some 9)) else (some 8)) else (some 7)) else (some 6)) else (some 5)) else (some 4)
def fX5_nameBetween (a1 : Int32) (a2 : Int32) (M : hMem) : Option Int32 := (fX5_isWord 1 a1 a2 M).bind fun q5 => if q5 = 0 then ((fX5_isWord 2 a1 a2 M).bind fun q20 => if q20 = 0 then ((fX5_isWord 3 a1 a2 M).bind fun q35 => if q35 = 0 then ((fX5_isWord 4 a1 a2 M).bind fun q50 => if q50 = 0 then ((fX5_isWord 5 a1 a2 M).bind fun q65 => if q65 = 0 then ((fX5_isWord 6 a1 a2 M).bind fun q80 => if q80 = 0 then (some (-1)) else (some 5)) else (some 4)) else (some 3)) else (some 2)) else (some 1)) else (some 0)
def fX5_tokenBetween (a1 : Int32) (a2 : Int32) (M : hMem) : Option Int32 := (fX5_byteAt a1 M).bind fun q2 => if 0 ≤ q2 then (if (fX5_isDigit q2 M) = 0 then (if (fX5_isLetter q2 M) = 0 then (if (fX5_isSign q2 M) = 0 then (some 1) else (some q2)) else ((fX5_nameBetween a1 a2 M).bind fun q42 => if q42 < 0 then ((fX5_keyBetween a1 a2 M).bind fun q55 => some q55) else (some 3))) else (if (a2 - a1) ≤ 4 then (some 2) else (some 1))) else (some 0)
def fJ9_min_7cf53 (a0 : Int32) (a1 : Int32) (M : hMem) : Int32 := if a1 < a0 then a1 else a0
def fX5_tokenEnd_L38  (v3 : Int32) (M : hMem) (k38 : (Int32 × Int32) → Option Int32) (s : Int32 × Int32) : Option Int32 := if 160 ≤ s.2 then (some s.1) else (if v3 = 0 then ((fX5_byteAt s.1 M).bind fun q66 => if (fX5_isDigit q66 M) = 0 then (some s.1) else (k38 (s.1 + 1, s.2 + 1))) else ((fX5_byteAt s.1 M).bind fun q52 => if (fX5_isLetter q52 M) = 0 then (some s.1) else (k38 (s.1 + 1, s.2 + 1))))
def fX5_tokenEnd (a1 : Int32) (M : hMem) : Option Int32 := (fX5_byteAt a1 M).bind fun q13 => if (fX5_isLetter q13 M) = 0 then ((fX5_byteAt a1 M).bind fun q26 => if (fX5_isDigit q26 M) = 0 then (some (fJ9_min_7cf53 (a1 + 1) (M 30 0) M)) else (h_lp (fX5_tokenEnd_L38 (fX5_isLetter q13 M) M) h_FU (fJ9_min_7cf53 (a1 + 1) (M 30 0) M, 0))) else (h_lp (fX5_tokenEnd_L38 (fX5_isLetter q13 M) M) h_FU (fJ9_min_7cf53 (a1 + 1) (M 30 0) M, 0))
def fX5_valueOf_L18  (v1 : Int32) (v3 : Int32) (M : hMem) (k18 : (Int32 × Int32) → Option Int32) (s : Int32 × Int32) : Option Int32 := if v3 ≤ s.2 then (some s.1) else (if v1 = 2 then ((fX5_byteAt s.2 M).bind fun q37 => k18 (((10 * s.1) + q37) - 48, s.2 + 1)) else (some s.1))
def fX5_valueOf (a1 : Int32) (a2 : Int32) (a3 : Int32) (M : hMem) : Option Int32 := if a1 = 3 then ((fX5_nameBetween a2 a3 M).bind fun q8 => some q8) else (h_lp (fX5_valueOf_L18 a1 a3 M) h_FU (0, a2))
def fX5_partTokens_L6    (k6 : (Int32 × Int32 × Int32 × hMem) → Option hMem) (s : Int32 × Int32 × Int32 × hMem) : Option hMem := if 160 < s.2.1 then (some s.2.2.2) else (if s.2.2.1 = 0 then (some s.2.2.2) else (if s.2.2.1 = 1 then (some s.2.2.2) else ((fX5_behindBlanks s.1 s.2.2.2).bind fun q24 => (fX5_tokenEnd q24 s.2.2.2).bind fun q30 => (fX5_tokenBetween q24 q30 s.2.2.2).bind fun q39 => if h_ib s.2.1 161 then (if h_ib s.2.1 161 then ((fX5_valueOf q39 q24 q30 (h_up (h_up s.2.2.2 32 s.2.1.toNatClampNeg q39) 33 s.2.1.toNatClampNeg q24)).bind fun q67 => if h_ib s.2.1 161 then (k6 (q30, s.2.1 + 1, q39, h_up (h_up (h_up s.2.2.2 32 s.2.1.toNatClampNeg q39) 33 s.2.1.toNatClampNeg q24) 34 s.2.1.toNatClampNeg q67)) else none) else none) else none)))
def fX5_partTokens  (M : hMem) : Option hMem := h_lp (fX5_partTokens_L6) h_FU (0, 0, (-1), M)
def fX4_endPart (a0 : Nat) (a1 : Int32) (M : hMem) : Option hMem := if h_isB hYx a0 3 0 = true then (if a1 < 0 then (some M) else (if 3 ≤ a1 then (some M) else (if h_ib a1 3 then (some (h_up M (a0 + 2) a1.toNatClampNeg (M a0 3))) else none))) else none
def fX4_add (a0 : Nat) (a1 : Int32) (M : hMem) : Option hMem := if h_isB hYx a0 3 0 = true then (if 160 ≤ (M a0 3) then (some M) else (if h_ib (M a0 3) 160 then (some (h_up (h_up M (a0 + 1) (M a0 3).toNatClampNeg a1) a0 3 (((h_up M (a0 + 1) (M a0 3).toNatClampNeg a1) a0 3) + 1))) else none)) else none
def fX4_addName (a0 : Nat) (a1 : Int32) (M : hMem) : Option hMem := if h_isB hYx a0 3 0 = true then ((fX4_add a0 ((-1) - a1) M).bind fun q4 => some q4) else none
def fX5_readOr_L7 (rc : Nat → Int32 → hMem → Option hMem)  (v1 : Int32)  (k7 : (Int32 × hMem) → Option hMem) (s : Int32 × hMem) : Option hMem := if 160 ≤ s.1 then (some s.2) else (if (s.2 30 6) = 7 then ((fX5_advance s.2).bind fun q24 => (rc 1 v1 q24).bind fun q29 => if h_isB hYx (q29 30 8).toNatClampNeg 3 0 = true then ((fX4_add ((q29 30 8).toNatClampNeg) (-11) q29).bind fun q38 => k7 (s.1 + 1, q38)) else none) else (some s.2))
def fX5_readOr (rc : Nat → Int32 → hMem → Option hMem) (a1 : Int32) (M : hMem) : Option hMem := (rc 1 a1 M).bind fun q2 => h_lp (fX5_readOr_L7 rc a1) h_FU (0, q2)
def fX5_readAnd_L7 (rc : Nat → Int32 → hMem → Option hMem)  (v1 : Int32)  (k7 : (Int32 × hMem) → Option hMem) (s : Int32 × hMem) : Option hMem := if 160 ≤ s.1 then (some s.2) else (if (s.2 30 6) = 8 then ((fX5_advance s.2).bind fun q24 => (rc 2 v1 q24).bind fun q29 => if h_isB hYx (q29 30 8).toNatClampNeg 3 0 = true then ((fX4_add ((q29 30 8).toNatClampNeg) (-12) q29).bind fun q38 => k7 (s.1 + 1, q38)) else none) else (some s.2))
def fX5_readAnd (rc : Nat → Int32 → hMem → Option hMem) (a1 : Int32) (M : hMem) : Option hMem := (rc 2 a1 M).bind fun q2 => h_lp (fX5_readAnd_L7 rc a1) h_FU (0, q2)
def fX5_readNot_L74 (rc : Nat → Int32 → hMem → Option hMem)  (v1 : Int32) (t0 : Int32) (M : hMem) : Option hMem := (fX5_advance M).bind fun q76 => (rc 3 v1 q76).bind fun q81 => if h_isB hYx (q81 30 8).toNatClampNeg 3 0 = true then ((fX4_add ((q81 30 8).toNatClampNeg) t0 q81).bind fun q89 => some q89) else none
def fX5_readNot_L58 (rc : Nat → Int32 → hMem → Option hMem)  (v1 : Int32) (M : hMem) : Option hMem := if (M 30 6) = 60 then (fX5_readNot_L74 rc v1 (-14) M) else (fX5_readNot_L74 rc v1 (-15) M)
def fX5_readNot_L35 (rc : Nat → Int32 → hMem → Option hMem)  (v1 : Int32) (M : hMem) : Option hMem := (rc 3 v1 M).bind fun q37 => if (q37 30 6) = 60 then (fX5_readNot_L58 rc v1 q37) else (if (q37 30 6) = 61 then (fX5_readNot_L58 rc v1 q37) else (some q37))
def fX5_readNot (rc : Nat → Int32 → hMem → Option hMem) (a1 : Int32) (M : hMem) : Option hMem := if (M 30 6) = 9 then (if 5 ≤ a1 then (fX5_readNot_L35 rc a1 M) else ((fX5_advance M).bind fun q15 => (rc 2 (a1 + 1) q15).bind fun q22 => if h_isB hYx (q22 30 8).toNatClampNeg 3 0 = true then ((fX4_add ((q22 30 8).toNatClampNeg) (-13) q22).bind fun q31 => some q31) else none)) else (fX5_readNot_L35 rc a1 M)
def fX5_readSum_L48 (rc : Nat → Int32 → hMem → Option hMem) (k7 : (Int32 × hMem) → Option hMem) (v1 : Int32) (v2 : Int32) (t0 : Int32) (M : hMem) : Option hMem := (fX5_advance M).bind fun q50 => (rc 4 v1 q50).bind fun q55 => if h_isB hYx (q55 30 8).toNatClampNeg 3 0 = true then ((fX4_add ((q55 30 8).toNatClampNeg) t0 q55).bind fun q63 => k7 (v2 + 1, q63)) else none
def fX5_readSum_L32 (rc : Nat → Int32 → hMem → Option hMem) (k7 : (Int32 × hMem) → Option hMem) (v1 : Int32) (v2 : Int32) (M : hMem) : Option hMem := if (M 30 6) = 43 then (fX5_readSum_L48 rc k7 v1 v2 (-16) M) else (fX5_readSum_L48 rc k7 v1 v2 (-17) M)
def fX5_readSum_L7 (rc : Nat → Int32 → hMem → Option hMem)  (v1 : Int32)  (k7 : (Int32 × hMem) → Option hMem) (s : Int32 × hMem) : Option hMem := if 160 ≤ s.1 then (some s.2) else (if (s.2 30 6) = 43 then (fX5_readSum_L32 rc k7 v1 s.1 s.2) else (if (s.2 30 6) = 45 then (fX5_readSum_L32 rc k7 v1 s.1 s.2) else (some s.2)))
def fX5_readSum (rc : Nat → Int32 → hMem → Option hMem) (a1 : Int32) (M : hMem) : Option hMem := (rc 4 a1 M).bind fun q2 => h_lp (fX5_readSum_L7 rc a1) h_FU (0, q2)
def fX5_readTerm_L7 (rc : Nat → Int32 → hMem → Option hMem)  (v1 : Int32)  (k7 : (Int32 × hMem) → Option hMem) (s : Int32 × hMem) : Option hMem := if 160 ≤ s.1 then (some s.2) else (if (s.2 30 6) = 42 then ((fX5_advance s.2).bind fun q24 => (rc 5 v1 q24).bind fun q29 => if h_isB hYx (q29 30 8).toNatClampNeg 3 0 = true then ((fX4_add ((q29 30 8).toNatClampNeg) (-18) q29).bind fun q38 => k7 (s.1 + 1, q38)) else none) else (some s.2))
def fX5_readTerm (rc : Nat → Int32 → hMem → Option hMem) (a1 : Int32) (M : hMem) : Option hMem := (rc 5 a1 M).bind fun q2 => h_lp (fX5_readTerm_L7 rc a1) h_FU (0, q2)
def fX5_readOne_L99 (rc : Nat → Int32 → hMem → Option hMem)  (v1 : Int32) (M : hMem) : Option hMem := if (M 30 6) = 40 then (if 5 ≤ v1 then ((fX5_refuse M).bind fun q134 => some q134) else ((fX5_advance M).bind fun q114 => (rc 0 (v1 + 1) q114).bind fun q121 => (fX5_expect 41 q121).bind fun q127 => some q127)) else ((fX5_refuse M).bind fun q134 => some q134)
def fX5_readOne (rc : Nat → Int32 → hMem → Option hMem) (a1 : Int32) (M : hMem) : Option hMem := if (M 30 6) = 2 then (if h_isB hYx (M 30 8).toNatClampNeg 3 0 = true then (if h_ib (M 30 5) 161 then ((fX4_add ((M 30 8).toNatClampNeg) (M 34 (M 30 5).toNatClampNeg) M).bind fun q21 => (fX5_advance q21).bind fun q25 => some q25) else none) else none) else (if (M 30 6) = 3 then (if h_isB hYx (M 30 8).toNatClampNeg 3 0 = true then (if h_ib (M 30 5) 161 then ((fX4_addName ((M 30 8).toNatClampNeg) (M 34 (M 30 5).toNatClampNeg) M).bind fun q52 => (fX5_advance q52).bind fun q56 => some q56) else none) else none) else (if (M 30 6) = 45 then (if 5 ≤ a1 then (fX5_readOne_L99 rc a1 M) else ((fX5_advance M).bind fun q77 => (rc 5 (a1 + 1) q77).bind fun q84 => if h_isB hYx (q84 30 8).toNatClampNeg 3 0 = true then ((fX4_add ((q84 30 8).toNatClampNeg) (-19) q84).bind fun q93 => some q93) else none)) else (fX5_readOne_L99 rc a1 M)))
def fRR_read : Nat → Nat → Int32 → hMem → Option hMem
  | 0 => fun _ _ _ => none
  | m + 1 => fun t o0 M => match t with
    | 0 => fX5_readOr (fRR_read m) o0 M
    | 1 => fX5_readAnd (fRR_read m) o0 M
    | 2 => fX5_readNot (fRR_read m) o0 M
    | 3 => fX5_readSum (fRR_read m) o0 M
    | 4 => fX5_readTerm (fRR_read m) o0 M
    | 5 => fX5_readOne (fRR_read m) o0 M
    | _ => none
def gX5_readOr (o0 : Int32) (M : hMem) : Option hMem := fRR_read 40 0 o0 M
def gX5_readAnd (o0 : Int32) (M : hMem) : Option hMem := fRR_read 40 1 o0 M
def gX5_readNot (o0 : Int32) (M : hMem) : Option hMem := fRR_read 40 2 o0 M
def gX5_readSum (o0 : Int32) (M : hMem) : Option hMem := fRR_read 40 3 o0 M
def gX5_readTerm (o0 : Int32) (M : hMem) : Option hMem := fRR_read 40 4 o0 M
def gX5_readOne (o0 : Int32) (M : hMem) : Option hMem := fRR_read 40 5 o0 M
def fX5_readPart (a1 : Int32) (a2 : Int32) (M : hMem) : Option hMem := (fX5_expect a1 M).bind fun q2 => (gX5_readOr 0 q2).bind fun q7 => (fX5_expect 59 q7).bind fun q13 => if h_isB hYx (q13 30 8).toNatClampNeg 3 0 = true then ((fX4_endPart ((q13 30 8).toNatClampNeg) a2 q13).bind fun q21 => some q21) else none
def fX5_readInto (a1 : Nat) (M : hMem) : Option (Int32 × hMem) := if h_isB hYx a1 3 0 = true then ((fX5_partTokens M).bind fun q1 => if h_isB hYx ((h_up (h_up (h_up q1 30 0 0) 30 7 (-1)) 30 8 (nI a1)) 30 8).toNatClampNeg 3 0 = true then ((fX4_clear (((h_up (h_up (h_up q1 30 0 0) 30 7 (-1)) 30 8 (nI a1)) 30 8).toNatClampNeg) (h_up (h_up (h_up q1 30 0 0) 30 7 (-1)) 30 8 (nI a1))).bind fun q23 => (fX5_readPart 4 0 (h_up (h_up q23 30 5 0) 30 6 ((h_up q23 30 5 0) 32 0))).bind fun q44 => (fX5_readPart 5 1 q44).bind fun q50 => (fX5_readPart 6 2 q50).bind fun q57 => (fX5_expect 0 q57).bind fun q62 => some (q62 30 7, q62)) else none) else none
def fX9_isSquare (a0 : Int32) (M : hMem) : Int32 := if a0 < 0 then 0 else (if 32 ≤ a0 then 0 else 1)
def fX7_catcherSquares_L4   (M : hMem) (k4 : (Int32 × Int32) → Option Int32) (s : Int32 × Int32) : Option Int32 := if (M 1 6) ≤ s.2 then (some s.1) else (if h_ib s.2 4 then (k4 (s.1 ||| (1 <<< ((M (11 + s.2.toNatClampNeg) 0) &&& 31)), s.2 + 1)) else none)
def fX7_catcherSquares  (M : hMem) : Option Int32 := h_lp (fX7_catcherSquares_L4 M) h_FU (0, 0)
def fX9_squareOf (a0 : Int32) (M : hMem) : Int32 := h_rem a0 32
def fX7_hatSquares_L4   (M : hMem) (k4 : (Int32 × Int32) → Option Int32) (s : Int32 × Int32) : Option Int32 := if (M 1 5) ≤ s.2 then (some s.1) else (if h_ib s.2 4 then (k4 (s.1 ||| (1 <<< ((fX9_squareOf (M (7 + s.2.toNatClampNeg) 2) M) &&& 31)), s.2 + 1)) else none)
def fX7_hatSquares  (M : hMem) : Option Int32 := h_lp (fX7_hatSquares_L4 M) h_FU (0, 0)
def fX9_street_L64  (v1 : Int32) (v2 : Int32) (v3 : Int32) (M : hMem) : Option (Int32 × hMem) := if h_ib v1 3 then (if h_ib v1 3 then (if h_ib v1 3 then (some ((h_ushr (M 2 v1.toNatClampNeg) v2) &&& 1, h_up M 2 v1.toNatClampNeg (((M 2 v1.toNatClampNeg) &&& ((1 <<< (v2 &&& 31)) ^^^ (-1))) ||| (v3 <<< (v2 &&& 31))))) else none) else none) else none
def fX9_street (a1 : Int32) (a2 : Int32) (a3 : Int32) (M : hMem) : Option (Int32 × hMem) := if a1 < 0 then (some ((-1), M)) else (if a1 < 3 then (if (fX9_isSquare a2 M) = 0 then (some ((-2), M)) else (if a3 < 0 then (some ((-2), M)) else (if a3 ≤ 1 then (if a1 = 0 then (if a3 = 1 then ((fX7_hatSquares M).bind fun q43 => (fX7_catcherSquares M).bind fun q50 => if ((h_ushr (q43 ||| q50) a2) &&& 1) = 0 then (fX9_street_L64 a1 a2 a3 M) else (some ((-3), M))) else (fX9_street_L64 a1 a2 a3 M)) else (fX9_street_L64 a1 a2 a3 M)) else (some ((-2), M))))) else (some ((-1), M)))
def fX9_isSecond (a0 : Int32) (M : hMem) : Int32 := if a0 < 0 then 0 else (if 24 ≤ a0 then 0 else 1)
def fX7_gust (a1 : Int32) (M : hMem) : Option Int32 := if h_ib a1 24 then (if h_ib a1 24 then (some ((10 * (M 3 a1.toNatClampNeg)) + (M 4 a1.toNatClampNeg))) else none) else none
def fX9_blow (a1 : Int32) (a2 : Int32) (a3 : Int32) (M : hMem) : Option (Int32 × hMem) := if (fX9_isSecond a1 M) = 0 then (some ((-5), M)) else (if a2 < 0 then (some ((-7), M)) else (if 4 < a2 then (some ((-7), M)) else (if a3 < 0 then (some ((-7), M)) else (if a3 ≤ 9 then ((fX7_gust a1 M).bind fun q37 => if h_ib a1 24 then (if h_ib a1 24 then (some (q37, h_up (h_up M 3 a1.toNatClampNeg a2) 4 a1.toNatClampNeg a3)) else none) else none) else (some ((-7), M))))))
def fX9_wind (a1 : Int32) (M : hMem) : Option Int32 := if (fX9_isSecond a1 M) = 0 then (some (-5)) else ((fX7_gust a1 M).bind fun q12 => some q12)
def fX9_count (a1 : Int32) (M : hMem) : Int32 := if a1 = 0 then (M 1 5) else (if a1 = 1 then (M 1 6) else (if a1 = 2 then (M 2 0) else (if a1 = 3 then (M 2 1) else (if a1 = 4 then (M 2 2) else (if a1 = 5 then (M 0 4) else (if a1 = 6 then (M 1 7) else (if a1 = 7 then (M 30 0) else (-2))))))))
def fX9_isByte (a0 : Int32) (M : hMem) : Int32 := if a0 < 0 then 0 else (if 255 < a0 then 0 else 1)
def fX9_feed_L72  (v1 : Int32) (v2 : Int32) (v3 : Int32) (v4 : Int32) (v5 : Int32) (v6 : Int32)  (k72 : (Int32 × hMem) → Option (Int32 × hMem)) (s : Int32 × hMem) : Option (Int32 × hMem) := if v1 ≤ s.1 then (some (s.2 30 0, s.2)) else (if s.1 = 0 then ((fX5_put v2 s.2).bind fun q125 => k72 (s.1 + 1, q125)) else (if s.1 = 1 then ((fX5_put v3 s.2).bind fun q125 => k72 (s.1 + 1, q125)) else (if s.1 = 2 then ((fX5_put v4 s.2).bind fun q125 => k72 (s.1 + 1, q125)) else (if s.1 = 3 then ((fX5_put v5 s.2).bind fun q125 => k72 (s.1 + 1, q125)) else ((fX5_put v6 s.2).bind fun q125 => k72 (s.1 + 1, q125))))))
def fX9_feed (a1 : Int32) (a2 : Int32) (a3 : Int32) (a4 : Int32) (a5 : Int32) (a6 : Int32) (M : hMem) : Option (Int32 × hMem) := if a1 < 1 then (some ((-2), M)) else (if 5 < a1 then (some ((-2), M)) else (if (fX9_isByte a2 M) = 0 then (some ((-2), M)) else (if (fX9_isByte a3 M) = 0 then (some ((-2), M)) else (if (fX9_isByte a4 M) = 0 then (some ((-2), M)) else (if (fX9_isByte a5 M) = 0 then (some ((-2), M)) else (if (fX9_isByte a6 M) = 0 then (some ((-2), M)) else (if ((M 30 0) + a1) ≤ 160 then (h_lp (fX9_feed_L72 a1 a2 a3 a4 a5 a6) h_FU (0, M)) else (some ((-4), M)))))))))
def fX9_text  (M : hMem) : Option (Int32 × hMem) := if (M 0 4) < 6 then (if h_ib (M 0 4) 6 then ((fX5_readInto (56 + 4 * (M 0 4).toNatClampNeg) M).bind fun q25 => if q25.1 < 0 then (some (((h_up q25.2 0 4 ((q25.2 0 4) + 1)) 0 4) - 1, h_up q25.2 0 4 ((q25.2 0 4) + 1))) else (some ((-100) - q25.1, q25.2))) else none) else (some ((-4), M))
def fX9_force (a1 : Int32) (M : hMem) : Option (Int32 × hMem) := if a1 < 0 then (some ((-2), M)) else (if a1 < (M 0 4) then (some (M 1 7, h_up M 1 7 a1)) else (some ((-2), M)))
def fX9_isBehind (a0 : Int32) (M : hMem) : Int32 := if a0 < 0 then 0 else (if 24 < a0 then 0 else 1)
def fX9_stateOf (a0 : Int32) (a1 : Int32) (M : hMem) : Int32 := (a1 * 32) + a0
def fX4_changed (a0 : Int32) (a1 : Int32) (M : hMem) : Int32 := if a0 = (-19) then (-a1) else (if a1 = 0 then 1 else 0)
def fX4_joined (a0 : Int32) (a1 : Int32) (a2 : Int32) (M : hMem) : Int32 := if a0 = (-17) then (a1 - a2) else (if a0 = (-16) then (a1 + a2) else (if a0 = (-15) then (if a1 = a2 then 1 else 0) else (if a0 = (-14) then (if a2 ≤ a1 then 0 else 1) else (if a0 = (-13) then (a1 * a2) else (if a0 = (-12) then (if a1 = 0 then 0 else (if a2 = 0 then 0 else 1)) else (if a0 = (-11) then (if a1 = 0 then (if a2 = 0 then 0 else 1) else 1) else (a1 * a2)))))))
def fX9_bounded (a0 : Int32) (a1 : Int32) (a2 : Int32) (M : hMem) : Int32 := if a1 ≤ a0 then (if a0 ≤ a2 then a0 else a2) else a1
def fJ9_floorMod_7cf53 (a0 : Int32) (a1 : Int32) (M : hMem) : Option Int32 := if a1 = 0 then none else if 0 ≤ (a0 ^^^ a1) then (some (h_rem a0 a1)) else (if (h_rem a0 a1) = 0 then (some (h_rem a0 a1)) else (some ((h_rem a0 a1) + a1)))
def fX4_withinBounds (a0 : Int32) (a1 : Int32) (M : hMem) : Option Int32 := if a0 = 0 then (some (fX9_bounded a1 0 9 M)) else (if a0 = 1 then ((fJ9_floorMod_7cf53 a1 3 M).bind fun q38 => some q38) else (some (fX9_bounded a1 (-99) 99 M)))
def fX4_says_L106 (k31 : (Int32 × Int32 × hMem) → Option (Int32 × hMem)) (v0 : Nat) (v1 : Int32) (v3 : Int32) (v4 : Int32) (v5 : Int32) (M : hMem) : Option (Int32 × hMem) := if v3 < 1 then (k31 (v3, v4 + 1, M)) else (if h_ib (v3 - 1) 40 then (if h_ib (v3 - 1) 40 then (k31 (v3, v4 + 1, h_up M (v0 + 3) (v3 - 1).toNatClampNeg (fX4_changed v5 (M (v0 + 3) (v3 - 1).toNatClampNeg) M))) else none) else none)
def fX4_says_L31  (v0 : Nat) (v1 : Int32)  (k31 : (Int32 × Int32 × hMem) → Option (Int32 × hMem)) (s : Int32 × Int32 × hMem) : Option (Int32 × hMem) := if h_ib v1 3 then (if (s.2.2 (v0 + 2) v1.toNatClampNeg) ≤ s.2.1 then ((fX4_withinBounds v1 (s.2.2 (v0 + 3) 0) s.2.2).bind fun q183 => some (q183, s.2.2)) else (if h_ib s.2.1 160 then (if (s.2.2 (v0 + 1) s.2.1.toNatClampNeg) < (-6) then (if (s.2.2 (v0 + 1) s.2.1.toNatClampNeg) = (-13) then (fX4_says_L106 k31 v0 v1 s.1 s.2.1 (s.2.2 (v0 + 1) s.2.1.toNatClampNeg) s.2.2) else (if (s.2.2 (v0 + 1) s.2.1.toNatClampNeg) = (-19) then (fX4_says_L106 k31 v0 v1 s.1 s.2.1 (s.2.2 (v0 + 1) s.2.1.toNatClampNeg) s.2.2) else (if s.1 < 2 then (k31 (s.1, s.2.1 + 1, s.2.2)) else (if h_ib ((s.1 + (-1)) - 1) 40 then (if h_ib (s.1 + (-1)) 40 then (if h_ib ((s.1 + (-1)) - 1) 40 then (k31 (s.1 + (-1), s.2.1 + 1, h_up s.2.2 (v0 + 3) ((s.1 + (-1)) - 1).toNatClampNeg (fX4_joined (s.2.2 (v0 + 1) s.2.1.toNatClampNeg) (s.2.2 (v0 + 3) ((s.1 + (-1)) - 1).toNatClampNeg) (s.2.2 (v0 + 3) (s.1 + (-1)).toNatClampNeg) s.2.2))) else none) else none) else none)))) else (if 40 ≤ s.1 then (k31 (s.1, s.2.1 + 1, s.2.2)) else (if (s.2.2 (v0 + 1) s.2.1.toNatClampNeg) < 0 then (if h_ib ((-1) - (s.2.2 (v0 + 1) s.2.1.toNatClampNeg)) 6 then (if h_ib s.1 40 then (k31 (s.1 + 1, s.2.1 + 1, h_up s.2.2 (v0 + 3) s.1.toNatClampNeg (s.2.2 48 ((-1) - (s.2.2 (v0 + 1) s.2.1.toNatClampNeg)).toNatClampNeg))) else none) else none) else (if h_ib s.1 40 then (k31 (s.1 + 1, s.2.1 + 1, h_up s.2.2 (v0 + 3) s.1.toNatClampNeg (s.2.2 (v0 + 1) s.2.1.toNatClampNeg))) else none)))) else none)) else none
def fX4_says (a0 : Nat) (a1 : Int32) (M : hMem) : Option (Int32 × hMem) := if h_isB hYx a0 3 0 = true then (if a1 < 0 then (some (0, M)) else (if a1 < 3 then (if a1 = 0 then (h_lp (fX4_says_L31 a0 a1) h_FU (0, 0, M)) else (if h_ib (a1 - 1) 3 then (h_lp (fX4_says_L31 a0 a1) h_FU (0, M (a0 + 2) (a1 - 1).toNatClampNeg, M)) else none)) else (some (0, M)))) else none
def fX9_lieOf (a0 : Int32) (M : hMem) : Int32 := a0 / 32
def fX8_tell_L44   (M : hMem) : Option hMem := some (h_up M 48 5 (M 40 3))
def fX8_tell (a1 : Int32) (a2 : Int32) (a3 : Int32) (M : hMem) : Option hMem := fX8_tell_L44 (h_up (h_up (h_up (h_up (h_up M 48 0 a1) 48 1 (fX9_lieOf a3 (h_up M 48 0 a1))) 48 2 ((h_up (h_up M 48 0 a1) 48 1 (fX9_lieOf a3 (h_up M 48 0 a1))) 40 4)) 48 3 a2) 48 4 (fX9_squareOf a3 (h_up (h_up (h_up (h_up M 48 0 a1) 48 1 (fX9_lieOf a3 (h_up M 48 0 a1))) 48 2 ((h_up (h_up M 48 0 a1) 48 1 (fX9_lieOf a3 (h_up M 48 0 a1))) 40 4)) 48 3 a2)))
def fX9_asks (a1 : Int32) (a2 : Int32) (a3 : Int32) (a4 : Int32) (a5 : Int32) (M : hMem) : Option (Int32 × hMem) := if a1 < 0 then (some ((-1000), M)) else (if 3 ≤ a1 then (some ((-1000), M)) else (if (fX9_isBehind a4 M) = 0 then (some ((-1000), M)) else (if (fX9_isSquare a5 M) = 0 then (some ((-1000), M)) else (if a2 < 0 then (some ((-1000), M)) else (if 9 < (a2 / 10) then (some ((-1000), M)) else (if (h_rem a2 10) < 3 then (if a3 < 0 then (some ((-1000), M)) else (if 9 < (a3 / 10) then (some ((-1000), M)) else (if (h_rem a3 10) < 6 then (if h_ib (M 1 7) 6 then ((fX8_tell (a2 / 10) a4 (fX9_stateOf a5 (h_rem a2 10) (h_up (h_up (h_up M 40 6 (nI (56 + 4 * (M 1 7).toNatClampNeg))) 40 3 (h_rem a3 10)) 40 4 (a3 / 10))) (h_up (h_up (h_up M 40 6 (nI (56 + 4 * (M 1 7).toNatClampNeg))) 40 3 (h_rem a3 10)) 40 4 (a3 / 10))).bind fun q140 => if h_isB hYx (q140 40 6).toNatClampNeg 3 0 = true then ((fX4_says ((q140 40 6).toNatClampNeg) a1 q140).bind fun q158 => some (q158.1, q158.2)) else none) else none) else (some ((-1000), M))))) else (some ((-1000), M))))))))
def fX9_isLie (a0 : Int32) (M : hMem) : Int32 := if a0 < 0 then 0 else (if 3 ≤ a0 then 0 else 1)
def fX9_isOpen (a1 : Int32) (M : hMem) : Int32 := if (fX9_isSquare a1 M) = 0 then 0 else (if ((h_ushr (M 2 0) a1) &&& 1) = 0 then 1 else 0)
def fX9_hat_L90   (M : hMem) : Option (Int32 × hMem) := some (((h_up M 1 5 ((M 1 5) + 1)) 1 5) - 1, h_up M 1 5 ((M 1 5) + 1))
def fX9_hat (a1 : Int32) (a2 : Int32) (a3 : Int32) (M : hMem) : Option (Int32 × hMem) := if a1 < 0 then (some ((-2), M)) else (if 6 ≤ (a1 / 10) then (some ((-2), M)) else (if (fX9_isOpen a2 M) = 0 then (some ((-2), M)) else (if (fX9_isLie a3 M) = 0 then (some ((-2), M)) else (if (M 1 5) < 4 then (if h_ib (M 1 5) 4 then (fX9_hat_L90 (h_up (h_up (h_up M (7 + (M 1 5).toNatClampNeg) 0 (a1 / 10)) (7 + (M 1 5).toNatClampNeg) 1 (h_rem a1 10)) (7 + (M 1 5).toNatClampNeg) 2 (fX9_stateOf a2 a3 (h_up (h_up M (7 + (M 1 5).toNatClampNeg) 0 (a1 / 10)) (7 + (M 1 5).toNatClampNeg) 1 (h_rem a1 10))))) else none) else (some ((-4), M))))))
def fX9_isHat (a1 : Int32) (M : hMem) : Int32 := if a1 < 0 then 0 else (if (M 1 5) ≤ a1 then 0 else 1)
def fX9_set_L68  (v2 : Int32) (v3 : Int32) (v4 : Nat) (v5 : Int32) (v6 : Int32) (M : hMem) : Option (Int32 × hMem) := if v2 = 1 then (if (fX9_isLie v3 M) = 0 then (some ((-7), M)) else (some (v6, h_up M v4 2 (fX9_stateOf v5 v3 M)))) else (some ((-7), M))
def fX9_set (a1 : Int32) (a2 : Int32) (a3 : Int32) (M : hMem) : Option (Int32 × hMem) := if (fX9_isHat a1 M) = 0 then (some ((-5), M)) else (if h_ib a1 4 then (if a2 = 0 then (if (fX9_isOpen a3 M) = 0 then (fX9_set_L68 a2 a3 (7 + a1.toNatClampNeg) (fX9_squareOf (M (7 + a1.toNatClampNeg) 2) M) (fX9_lieOf (M (7 + a1.toNatClampNeg) 2) M) M) else (some (fX9_squareOf (M (7 + a1.toNatClampNeg) 2) M, h_up M (7 + a1.toNatClampNeg) 2 (fX9_stateOf a3 (fX9_lieOf (M (7 + a1.toNatClampNeg) 2) M) M)))) else (fX9_set_L68 a2 a3 (7 + a1.toNatClampNeg) (fX9_squareOf (M (7 + a1.toNatClampNeg) 2) M) (fX9_lieOf (M (7 + a1.toNatClampNeg) 2) M) M)) else none)
def fX9_told (a1 : Int32) (a2 : Int32) (M : hMem) : Option Int32 := if (fX9_isHat a1 M) = 0 then (some (-5)) else (if a2 = 0 then (if h_ib a1 4 then (some (fX9_squareOf (M (7 + a1.toNatClampNeg) 2) M)) else none) else (if a2 = 1 then (if h_ib a1 4 then (some (fX9_lieOf (M (7 + a1.toNatClampNeg) 2) M)) else none) else (if a2 = 2 then (if h_ib a1 4 then (some (M (7 + a1.toNatClampNeg) 0)) else none) else (if a2 = 3 then (if h_ib a1 4 then (some (M (7 + a1.toNatClampNeg) 1)) else none) else (some (-7))))))
def fX9_isPace (a0 : Int32) (M : hMem) : Int32 := if a0 < 0 then 0 else (if 4 < a0 then 0 else 1)
def fX9_isReach (a0 : Int32) (M : hMem) : Int32 := if a0 < 0 then 0 else (if 3 < a0 then 0 else 1)
def fX9_come_L87   (M : hMem) : Option (Int32 × hMem) := some ((M 1 6) - 1, M)
def fX9_come (a1 : Int32) (a2 : Int32) (a3 : Int32) (M : hMem) : Option (Int32 × hMem) := if (fX9_isOpen a1 M) = 0 then (some ((-2), M)) else (if (fX9_isPace a2 M) = 0 then (some ((-2), M)) else (if (fX9_isReach a3 M) = 0 then (some ((-2), M)) else (if (M 1 6) < 4 then (if h_ib (M 1 6) 4 then (fX9_come_L87 (h_up (h_up (h_up (h_up M (11 + (M 1 6).toNatClampNeg) 0 a1) (11 + (M 1 6).toNatClampNeg) 1 a2) (11 + (M 1 6).toNatClampNeg) 2 a3) 1 6 (((h_up (h_up (h_up M (11 + (M 1 6).toNatClampNeg) 0 a1) (11 + (M 1 6).toNatClampNeg) 1 a2) (11 + (M 1 6).toNatClampNeg) 2 a3) 1 6) + 1))) else none) else (some ((-4), M)))))
def fX9_isCatcher (a1 : Int32) (M : hMem) : Int32 := if a1 < 0 then 0 else (if (M 1 6) ≤ a1 then 0 else 1)
def fX9_does_L82  (v2 : Int32) (v3 : Int32) (v4 : Nat) (v5 : Int32) (M : hMem) : Option (Int32 × hMem) := if v2 = 2 then (if (fX9_isReach v3 M) = 0 then (some (v5, M)) else (some (M v4 2, h_up M v4 2 v3))) else (some (v5, M))
def fX9_does_L54  (v2 : Int32) (v3 : Int32) (v4 : Nat) (v5 : Int32) (M : hMem) : Option (Int32 × hMem) := if v2 = 1 then (if (fX9_isPace v3 M) = 0 then (fX9_does_L82 v2 v3 v4 v5 M) else (some (M v4 1, h_up M v4 1 v3))) else (fX9_does_L82 v2 v3 v4 v5 M)
def fX9_does (a1 : Int32) (a2 : Int32) (a3 : Int32) (M : hMem) : Option (Int32 × hMem) := if (fX9_isCatcher a1 M) = 0 then (some ((-5), M)) else (if h_ib a1 4 then (if a2 = 0 then (if (fX9_isOpen a3 M) = 0 then (fX9_does_L54 a2 a3 (11 + a1.toNatClampNeg) (-7) M) else (some (M (11 + a1.toNatClampNeg) 0, h_up M (11 + a1.toNatClampNeg) 0 a3))) else (fX9_does_L54 a2 a3 (11 + a1.toNatClampNeg) (-7) M)) else none)
def fX9_isZeroOrOne (a0 : Int32) (M : hMem) : Int32 := if a0 = 0 then 1 else (if a0 = 1 then 1 else 0)
def fX8_suppose_L68  (v2 : Nat) (v3 : Nat) (M : hMem) : Option hMem := some (h_up (h_up (h_up M 40 4 (M v2 1)) 40 5 ((h_up M 40 4 (M v2 1)) v2 2)) 40 6 (nI v3))
def fX8_suppose (a2 : Nat) (a3 : Nat) (M : hMem) : Option hMem := if h_isB hYx a2 2 0 = true then (if h_isB hYx a3 3 0 = true then (if h_cpb 0 0 24 24 24 = true then (if h_cpb 0 0 24 24 24 = true then (fX8_suppose_L68 a2 a3 (h_up (h_cp (h_cp (h_up (h_up (h_up M 40 0 (M 2 0)) 40 1 ((h_up M 40 0 (M 2 0)) 2 1)) 40 2 ((h_up (h_up M 40 0 (M 2 0)) 40 1 ((h_up M 40 0 (M 2 0)) 2 1)) 2 2)) 3 0 45 0 24) 4 0 46 0 24) 40 3 ((h_cp (h_cp (h_up (h_up (h_up M 40 0 (M 2 0)) 40 1 ((h_up M 40 0 (M 2 0)) 2 1)) 40 2 ((h_up (h_up M 40 0 (M 2 0)) 40 1 ((h_up M 40 0 (M 2 0)) 2 1)) 2 2)) 3 0 45 0 24) 4 0 46 0 24) a2 0))) else none) else none) else none) else none
def fX9_think (a1 : Int32) (M : hMem) : Option hMem := if h_ib a1 4 then (if h_ib (M 1 7) 6 then ((fX8_suppose (7 + a1.toNatClampNeg) (56 + 4 * (M 1 7).toNatClampNeg) M).bind fun q29 => some q29) else none) else none
def fX3_eddyWay (a0 : Int32) (a1 : Int32) (a2 : Int32) (M : hMem) : Int32 := if a0 = 3 then (h_rem ((a2 + 1) + a1) 4) else (if a0 = 5 then a2 else (h_rem (a2 + 1) 4))
def fX3_hatFar (a0 : Int32) (a1 : Int32) (M : hMem) : Int32 := if a1 = 0 then (a0 / 3) else a0
def fX3_bowlerFar (a0 : Int32) (a1 : Int32) (a2 : Int32) (M : hMem) : Int32 := if a2 = 1 then (((fX3_hatFar a1 a2 M) + 1) + (a0 / 4)) else (fX3_hatFar a1 a2 M)
def fX3_capFar (a0 : Int32) (M : hMem) : Int32 := fX9_bounded a0 0 1 M
def fX3_far (a0 : Int32) (a1 : Int32) (a2 : Int32) (a3 : Int32) (M : hMem) : Int32 := if a0 = 1 then (fX9_bounded (fX3_bowlerFar a1 a2 a3 M) 0 12 M) else (if a0 = 2 then (fX3_capFar a2 M) else (if a0 = 3 then (fX9_bounded (fX3_bowlerFar a1 a2 1 M) 0 12 M) else (if a0 = 4 then (if a2 ≤ 1 then (fX3_capFar a2 M) else (fX9_bounded (a2 + (a1 / 2)) 0 12 M)) else (if a0 = 5 then (fX9_bounded ((fX3_hatFar a2 a3 M) - a1) 0 12 M) else (fX9_bounded (fX3_hatFar a2 a3 M) 0 12 M)))))
def fX3_isOne_L4  (v1 : Int32) (M : hMem) (k4 : (Int32 × Int32) → Option Int32) (s : Int32 × Int32) : Option Int32 := if 6 ≤ s.2 then (some 0) else (if s.1 < 0 then (some 0) else (if 6 ≤ s.1 then (some 0) else (if s.1 = v1 then (some 1) else (if h_ib s.1 6 then (k4 (h_abvI s.1.toNatClampNeg, s.2 + 1)) else none))))
def fX3_isOne (a0 : Int32) (a1 : Int32) (M : hMem) : Option Int32 := h_lp (fX3_isOne_L4 a1 M) h_FU (a0, 0)
def fX3_turnsOver (a0 : Int32) (M : hMem) : Option Int32 := (fX3_isOne a0 2 M).bind fun q2 => if q2 = 0 then (some 1) else (some 0)
def fX8_isWet (a1 : Int32) (M : hMem) : Int32 := if ((h_ushr (M 40 1) (fX9_squareOf a1 M)) &&& 1) = 0 then 0 else 1
def fX8_beside_L79  (v3 : Int32) (M : hMem) : Int32 := if (fX9_isSquare v3 M) = 0 then (-1) else (if ((h_ushr (M 40 0) v3) &&& 1) = 0 then v3 else (-1))
def fX8_beside_L52  (t0 : Int32) (M : hMem) : Int32 := fX8_beside_L79 t0 M
def fX8_beside_L78  (t0 : Int32) (M : hMem) : Int32 := fX8_beside_L79 t0 M
def fX8_beside (a1 : Int32) (a2 : Int32) (M : hMem) : Int32 := if a2 = 0 then (fX8_beside_L79 (a1 - 8) M) else (if a2 = 1 then (if 7 ≤ (h_rem a1 8) then (fX8_beside_L52 (-1) M) else (fX8_beside_L52 (a1 + 1) M)) else (if a2 = 2 then (fX8_beside_L79 (a1 + 8) M) else (if (h_rem a1 8) ≤ 0 then (fX8_beside_L78 (-1) M) else (fX8_beside_L78 (a1 - 1) M))))
def fX8_slide_L6  (v2 : Int32) (v3 : Int32) (M : hMem) (k6 : (Int32 × Int32) → Option Int32) (s : Int32 × Int32) : Option Int32 := if v3 ≤ s.2 then (some s.1) else (if 0 ≤ (fX8_beside s.1 v2 M) then (if ((h_ushr (M 40 1) (fX8_beside s.1 v2 M)) &&& 1) = 0 then (k6 (fX8_beside s.1 v2 M, s.2 + 1)) else (some (fX8_beside s.1 v2 M))) else (some s.1))
def fX8_slide (a1 : Int32) (a2 : Int32) (a3 : Int32) (M : hMem) : Option Int32 := h_lp (fX8_slide_L6 a2 a3 M) h_FU (a1, 0)
def fX8_next_L128  (v3 : Int32) (v4 : Int32) (v5 : Int32) (t2 : Int32) (t1 : Int32) (M : hMem) : Option (Int32 × hMem) := (fX8_slide t1 t2 v5 M).bind fun q130 => if q130 = v3 then (some (fX9_stateOf q130 v4 M, M)) else ((fX3_turnsOver (M 40 3) M).bind fun q145 => if q145 = 0 then (some (fX9_stateOf q130 v4 M, M)) else (if h_isB hYx (M 40 6).toNatClampNeg 3 0 = true then ((fX4_says ((M 40 6).toNatClampNeg) 1 M).bind fun q172 => some (fX9_stateOf q130 (h_rem (v4 + q172.1) 3) q172.2, q172.2)) else none))
def fX8_next_L93  (v1 : Int32) (v3 : Int32) (v4 : Int32) (v5 : Int32) (t0 : Int32) (M : hMem) : Option (Int32 × hMem) := if t0 = 0 then (if h_ib v1 24 then (fX8_next_L128 v3 v4 v5 (M 45 v1.toNatClampNeg) v3 M) else none) else (if h_ib v1 24 then (fX8_next_L128 v3 v4 v5 (fX3_eddyWay (M 40 3) (M 40 4) (M 45 v1.toNatClampNeg) M) v3 M) else none)
def fX8_next (a1 : Int32) (a2 : Int32) (M : hMem) : Option (Int32 × hMem) := if (fX9_isSecond a1 M) = 0 then (some (a2, M)) else (if h_ib a1 24 then (if (M 45 a1.toNatClampNeg) = 4 then (some (a2, M)) else (if (fX8_isWet a2 M) = 0 then (if h_ib a1 24 then ((fX8_tell (M 46 a1.toNatClampNeg) a1 a2 M).bind fun q47 => if h_isB hYx (q47 40 6).toNatClampNeg 3 0 = true then ((fX4_says ((q47 40 6).toNatClampNeg) 0 q47).bind fun q67 => if ((h_ushr (q67.2 40 2) (fX9_squareOf a2 M)) &&& 1) = 0 then (fX8_next_L93 a1 (fX9_squareOf a2 M) (fX9_lieOf a2 M) (fX3_far (q47 40 3) (q47 40 4) q67.1 (fX9_lieOf a2 M) q67.2) 0 q67.2) else (fX8_next_L93 a1 (fX9_squareOf a2 M) (fX9_lieOf a2 M) (fX3_far (q47 40 3) (q47 40 4) q67.1 (fX9_lieOf a2 M) q67.2) 1 q67.2)) else none) else none) else (some (a2, M)))) else none)
def fX8_later_L6  (v3 : Int32)  (k6 : (Int32 × Int32 × hMem) → Option (Int32 × hMem)) (s : Int32 × Int32 × hMem) : Option (Int32 × hMem) := if v3 ≤ s.2.1 then (some (s.1, s.2.2)) else ((fX8_next s.2.1 s.1 s.2.2).bind fun q17 => k6 (q17.1, s.2.1 + 1, q17.2))
def fX8_later (a1 : Int32) (a2 : Int32) (a3 : Int32) (M : hMem) : Option (Int32 × hMem) := h_lp (fX8_later_L6 a3) h_FU (a1, a2, M)
def fX9_at (a1 : Int32) (a2 : Int32) (a3 : Int32) (M : hMem) : Option (Int32 × hMem) := if (fX9_isHat a1 M) = 0 then (some ((-5), M)) else (if (fX9_isBehind a2 M) = 0 then (some ((-7), M)) else (if (fX9_isZeroOrOne a3 M) = 0 then (some ((-7), M)) else ((fX9_think a1 M).bind fun q30 => (fX8_later (q30 40 5) 0 a2 q30).bind fun q46 => if a3 = 0 then (some (fX9_squareOf q46.1 q46.2, q46.2)) else (some (fX9_lieOf q46.1 q46.2, q46.2)))))
def fX9_letPass_L2  (v1 : Int32)  (k2 : (Int32 × hMem) → Option hMem) (s : Int32 × hMem) : Option hMem := if (s.2 1 5) ≤ s.1 then (some s.2) else ((fX9_think s.1 s.2).bind fun q15 => if h_ib s.1 4 then ((fX8_later (q15 40 5) 0 v1 q15).bind fun q40 => k2 (s.1 + 1, h_up q40.2 (7 + s.1.toNatClampNeg) 2 q40.1)) else none)
def fX9_letPass (a1 : Int32) (M : hMem) : Option hMem := h_lp (fX9_letPass_L2 a1) h_FU (0, M)
def fX9_pass_L19   (M : hMem) (k19 : (Int32 × Int32) → Option (Int32 × hMem)) (s : Int32 × Int32) : Option (Int32 × hMem) := if (M 1 5) ≤ s.2 then (some (s.1, M)) else (if h_ib s.2 4 then (k19 (s.1 + ((h_ushr (M 2 1) (fX9_squareOf (M (7 + s.2.toNatClampNeg) 2) M)) &&& 1), s.2 + 1)) else none)
def fX9_pass (a1 : Int32) (M : hMem) : Option (Int32 × hMem) := if (fX9_isBehind a1 M) = 0 then (some ((-2), M)) else ((fX9_letPass a1 M).bind fun q12 => h_lp (fX9_pass_L19 q12) h_FU (0, 0))
def fX8_follow_L9  (v1 : Nat)  (k9 : (Int32 × hMem) → Option hMem) (s : Int32 × hMem) : Option hMem := if 24 ≤ s.1 then (some s.2) else (if h_ib s.1 25 then ((fX8_next s.1 (s.2 v1 s.1.toNatClampNeg) s.2).bind fun q24 => if h_ib (s.1 + 1) 25 then (k9 (s.1 + 1, h_up q24.2 v1 (s.1 + 1).toNatClampNeg q24.1)) else none) else none)
def fX8_follow (a1 : Nat) (M : hMem) : Option hMem := if h_isB hYx a1 10 25 = true then (h_lp (fX8_follow_L9 a1) h_FU (0, h_up M a1 0 (M 40 5))) else none
def fX8_firstIn_L10  (v1 : Int32) (M : hMem) (k10 : Int32 → Option (Int32 × hMem)) (s : Int32) : Option (Int32 × hMem) := if 24 < s then (some ((-1), M)) else (if h_ib s 25 then (if ((h_ushr v1 (fX9_squareOf (M 47 s.toNatClampNeg) M)) &&& 1) = 0 then (k10 (s + 1)) else (some (s, M))) else none)
def fX8_firstIn (a1 : Int32) (M : hMem) : Option (Int32 × hMem) := (fX8_follow 47 M).bind fun q5 => h_lp (fX8_firstIn_L10 a1 q5) h_FU 0
def fX9_when (a1 : Int32) (a2 : Int32) (M : hMem) : Option (Int32 × hMem) := if (fX9_isHat a1 M) = 0 then (some ((-5), M)) else (if (fX9_isSquare a2 M) = 0 then (some ((-7), M)) else ((fX9_think a1 M).bind fun q23 => (fX8_firstIn (1 <<< (a2 &&& 31)) q23).bind fun q33 => some (q33.1, q33.2)))
def fX9_track_L41  (v2 : Int32) (M : hMem) (k41 : (Int32 × Int32) → Option (Int32 × hMem)) (s : Int32 × Int32) : Option (Int32 × hMem) := if v2 < s.2 then (some (s.1, M)) else (if h_ib s.2 25 then (k41 (s.1 ||| (1 <<< ((fX9_squareOf (M 47 s.2.toNatClampNeg) M) &&& 31)), s.2 + 1)) else none)
def fX9_track (a1 : Int32) (a2 : Int32) (M : hMem) : Option (Int32 × hMem) := if (fX9_isHat a1 M) = 0 then (some (0, M)) else (if (fX9_isBehind a2 M) = 0 then (some (0, M)) else ((fX9_think a1 M).bind fun q19 => (fX8_follow 47 q19).bind fun q33 => h_lp (fX9_track_L41 a2 q33) h_FU (0, 0)))
def fX9_over (a1 : Int32) (M : hMem) : Option (Int32 × hMem) := if (fX9_isHat a1 M) = 0 then (some ((-5), M)) else ((fX9_think a1 M).bind fun q13 => (fX8_firstIn (q13 40 1) q13).bind fun q27 => some (q27.1, q27.2))
def fX9_round_L100  (v2 : Int32) (v3 : Int32) (v4 : Int32) (M : hMem) : Option (Int32 × hMem) := if v2 = 0 then (some (v4, M)) else (if h_ib v3 96 then (some (v4 - (M 55 v3.toNatClampNeg), M)) else none)
def fX9_round_L58  (v2 : Int32)  (k58 : (Int32 × Int32 × hMem) → Option (Int32 × hMem)) (s : Int32 × Int32 × hMem) : Option (Int32 × hMem) := if 96 < s.2.1 then (fX9_round_L100 v2 s.1 s.2.1 s.2.2) else (if h_ib s.1 96 then (if 0 ≤ (s.2.2 55 s.1.toNatClampNeg) then (fX9_round_L100 v2 s.1 s.2.1 s.2.2) else (if h_ib s.1 96 then ((fX8_later s.1 0 24 (h_up s.2.2 55 s.1.toNatClampNeg s.2.1)).bind fun q90 => k58 (q90.1, s.2.1 + 1, q90.2)) else none)) else none)
def fX9_round_L28  (v2 : Int32)  (k28 : (Int32 × hMem) → Option (Int32 × hMem)) (s : Int32 × hMem) : Option (Int32 × hMem) := if 96 ≤ s.1 then (h_lp (fX9_round_L58 v2) h_FU (s.2 40 5, 0, s.2)) else (if h_ib s.1 96 then (k28 (s.1 + 1, h_up s.2 55 s.1.toNatClampNeg (-1))) else none)
def fX9_round (a1 : Int32) (a2 : Int32) (M : hMem) : Option (Int32 × hMem) := if (fX9_isHat a1 M) = 0 then (some ((-5), M)) else (if (fX9_isZeroOrOne a2 M) = 0 then (some ((-7), M)) else ((fX9_think a1 M).bind fun q23 => h_lp (fX9_round_L28 a2) h_FU (0, q23)))
def fX9_from_L35  (v2 : Int32) (v3 : Int32)  (k35 : (Int32 × Int32 × hMem) → Option (Int32 × hMem)) (s : Int32 × Int32 × hMem) : Option (Int32 × hMem) := if 32 ≤ s.2.1 then (some (s.1, s.2.2)) else (if (fX9_isOpen s.2.1 s.2.2) = 0 then (k35 (s.1, s.2.1 + 1, s.2.2)) else ((fX8_later (fX9_stateOf s.2.1 (fX9_lieOf (s.2.2 40 5) s.2.2) s.2.2) 0 v2 s.2.2).bind fun q72 => if (fX9_squareOf q72.1 q72.2) = v3 then (k35 (s.1 ||| (1 <<< (s.2.1 &&& 31)), s.2.1 + 1, q72.2)) else (k35 (s.1, s.2.1 + 1, q72.2))))
def fX9_from (a1 : Int32) (a2 : Int32) (a3 : Int32) (M : hMem) : Option (Int32 × hMem) := if (fX9_isHat a1 M) = 0 then (some (0, M)) else (if (fX9_isBehind a2 M) = 0 then (some (0, M)) else (if (fX9_isSquare a3 M) = 0 then (some (0, M)) else ((fX9_think a1 M).bind fun q26 => h_lp (fX9_from_L35 a2 a3) h_FU (0, 0, q26))))
def fX9_keeps_L127  (v3 : Int32) (M : hMem) (k127 : (Int32 × Int32 × Int32) → Option (Int32 × hMem)) (s : Int32 × Int32 × Int32) : Option (Int32 × hMem) := if 32 ≤ s.2.2 then (if v3 = 0 then (some (s.1, M)) else (some (s.2.1, M))) else (if h_ib s.2.2 96 then (if (M 55 s.2.2.toNatClampNeg) ≤ s.2.1 then (k127 (s.1, s.2.1, s.2.2 + 1)) else (if h_ib s.2.2 96 then (k127 (s.2.2, M 55 s.2.2.toNatClampNeg, s.2.2 + 1)) else none)) else none)
def fX9_keeps_L60  (v2 : Int32) (v3 : Int32)  (k60 : (Int32 × hMem) → Option (Int32 × hMem)) (s : Int32 × hMem) : Option (Int32 × hMem) := if 32 ≤ s.1 then (h_lp (fX9_keeps_L127 v3 s.2) h_FU ((-1), 0, 0)) else (if (fX9_isOpen s.1 s.2) = 0 then (k60 (s.1 + 1, s.2)) else ((fX8_later (fX9_stateOf s.1 (fX9_lieOf (s.2 40 5) s.2) s.2) 0 v2 s.2).bind fun q101 => if h_ib (fX9_squareOf q101.1 q101.2) 96 then (if h_ib (fX9_squareOf q101.1 q101.2) 96 then (k60 (s.1 + 1, h_up q101.2 55 (fX9_squareOf q101.1 q101.2).toNatClampNeg ((q101.2 55 (fX9_squareOf q101.1 q101.2).toNatClampNeg) + 1))) else none) else none))
def fX9_keeps_L36  (v2 : Int32) (v3 : Int32)  (k36 : (Int32 × hMem) → Option (Int32 × hMem)) (s : Int32 × hMem) : Option (Int32 × hMem) := if 32 ≤ s.1 then (h_lp (fX9_keeps_L60 v2 v3) h_FU (0, s.2)) else (if h_ib s.1 96 then (k36 (s.1 + 1, h_up s.2 55 s.1.toNatClampNeg 0)) else none)
def fX9_keeps (a1 : Int32) (a2 : Int32) (a3 : Int32) (M : hMem) : Option (Int32 × hMem) := if (fX9_isHat a1 M) = 0 then (some ((-5), M)) else (if (fX9_isBehind a2 M) = 0 then (some ((-7), M)) else (if (fX9_isZeroOrOne a3 M) = 0 then (some ((-7), M)) else ((fX9_think a1 M).bind fun q30 => h_lp (fX9_keeps_L36 a2 a3) h_FU (0, q30))))
def fX8_spread_L5  (v2 : Int32) (M : hMem) (k5 : (Int32 × Int32) → Option Int32) (s : Int32 × Int32) : Option Int32 := if v2 ≤ s.2 then (some s.1) else (k5 (s.1 ||| (((((h_ushr s.1 8) ||| (s.1 <<< (8 &&& 31))) ||| ((s.1 &&& 2139062143) <<< (1 &&& 31))) ||| (h_ushr (s.1 &&& (-16843010)) 1)) &&& ((M 40 0) ^^^ (-1))), s.2 + 1))
def fX8_spread (a1 : Int32) (a2 : Int32) (M : hMem) : Option Int32 := h_lp (fX8_spread_L5 a2 M) h_FU (a1, 0)
def fX8_had_L14  (v1 : Nat) (v4 : Int32) (M : hMem) (k14 : (Int32 × Int32) → Option Int32) (s : Int32 × Int32) : Option Int32 := if 24 < s.2 then (some (-1)) else (if h_ib s.2 25 then (if ((h_ushr s.1 (fX9_squareOf (M v1 s.2.toNatClampNeg) M)) &&& 1) = 0 then ((fX8_spread s.1 v4 M).bind fun q44 => k14 (q44, s.2 + 1)) else (some s.2)) else none)
def fX8_had (a1 : Nat) (a2 : Int32) (a3 : Int32) (a4 : Int32) (a5 : Int32) (M : hMem) : Option Int32 := if h_isB hYx a1 10 25 = true then ((fX8_spread (1 <<< (a2 &&& 31)) a5 M).bind fun q6 => h_lp (fX8_had_L14 a1 a4 M) h_FU (q6, a3)) else none
def fX8_hadBy (a1 : Nat) (M : hMem) : Option (Int32 × hMem) := if h_isB hYx a1 0 0 = true then ((fX8_follow 47 M).bind fun q5 => (fX8_had 47 (q5 a1 0) 0 (q5 a1 1) (q5 a1 2) q5).bind fun q26 => some (q26, q5)) else none
def fX9_hadNow (a1 : Int32) (a2 : Int32) (M : hMem) : Option (Int32 × hMem) := (fX9_think a1 M).bind fun q2 => if h_ib a2 4 then ((fX8_hadBy (11 + a2.toNatClampNeg) q2).bind fun q18 => some (q18.1, q18.2)) else none
def fX9_caught (a1 : Int32) (a2 : Int32) (M : hMem) : Option (Int32 × hMem) := if (fX9_isHat a1 M) = 0 then (some ((-5), M)) else (if (fX9_isCatcher a2 M) = 0 then (some ((-5), M)) else ((fX9_hadNow a1 a2 M).bind fun q19 => some (q19.1, q19.2)))
def fX9_isSooner (a0 : Int32) (a1 : Int32) (M : hMem) : Int32 := if a0 < 0 then 0 else (if a1 < 0 then 1 else (if a1 ≤ a0 then 0 else 1))
def fX9_who_L48  (v2 : Int32) (M : hMem) (k48 : (Int32 × Int32 × Int32) → Option (Int32 × hMem)) (s : Int32 × Int32 × Int32) : Option (Int32 × hMem) := if (M 1 6) ≤ s.2.2 then (if v2 = 0 then (some (s.1, M)) else (some (s.2.1, M))) else (if h_ib s.2.2 4 then ((fX8_had 47 (M (11 + s.2.2.toNatClampNeg) 0) 0 (M (11 + s.2.2.toNatClampNeg) 1) (M (11 + s.2.2.toNatClampNeg) 2) M).bind fun q99 => if (fX9_isSooner q99 s.2.1 M) = 0 then (k48 (s.1, s.2.1, s.2.2 + 1)) else (k48 (s.2.2, q99, s.2.2 + 1))) else none)
def fX9_who (a1 : Int32) (a2 : Int32) (M : hMem) : Option (Int32 × hMem) := if (fX9_isHat a1 M) = 0 then (some ((-5), M)) else (if (fX9_isZeroOrOne a2 M) = 0 then (some ((-7), M)) else ((fX9_think a1 M).bind fun q23 => (fX8_follow 47 q23).bind fun q37 => h_lp (fX9_who_L48 a2 q37) h_FU ((-1), (-1), 0)))
def fX9_refusalOfPair (a1 : Int32) (a2 : Int32) (a3 : Int32) (M : hMem) : Int32 := if (fX9_isHat a1 M) = 0 then (-5) else (if (fX9_isCatcher a2 M) = 0 then (-5) else (if (fX9_isZeroOrOne a3 M) = 0 then (-7) else 0))
def fX9_stand_L56  (v3 : Int32) (v5 : Nat) (M : hMem) (k56 : (Int32 × Int32 × Int32) → Option (Int32 × hMem)) (s : Int32 × Int32 × Int32) : Option (Int32 × hMem) := if 32 ≤ s.2.2 then (if v3 = 0 then (some (s.1, M)) else (some (s.2.1, M))) else (if (fX9_isOpen s.2.2 M) = 0 then (k56 (s.1, s.2.1, s.2.2 + 1)) else (if s.2.2 = (fX9_squareOf (M 40 5) M) then (k56 (s.1, s.2.1, s.2.2 + 1)) else ((fX8_had 47 s.2.2 0 (M v5 1) (M v5 2) M).bind fun q111 => if (fX9_isSooner q111 s.2.1 M) = 0 then (k56 (s.1, s.2.1, s.2.2 + 1)) else (k56 (s.2.2, q111, s.2.2 + 1)))))
def fX9_stand (a1 : Int32) (a2 : Int32) (a3 : Int32) (M : hMem) : Option (Int32 × hMem) := if (fX9_refusalOfPair a1 a2 a3 M) = 0 then ((fX9_think a1 M).bind fun q19 => (fX8_follow 47 q19).bind fun q33 => if h_ib a2 4 then (h_lp (fX9_stand_L56 a3 (11 + a2.toNatClampNeg) q33) h_FU ((-1), (-1), 0)) else none) else (some (fX9_refusalOfPair a1 a2 a3 M, M))
def fX9_wait_L43  (v3 : Int32) (v4 : Nat) (M : hMem) (k43 : (Int32 × Int32) → Option (Int32 × hMem)) (s : Int32 × Int32) : Option (Int32 × hMem) := if v3 < s.2 then (some (s.1, M)) else ((fX8_had 47 (M v4 0) s.2 (M v4 1) (M v4 2) M).bind fun q77 => if q77 < 0 then (some (s.1, M)) else (if q77 ≤ v3 then (k43 (s.2, s.2 + 1)) else (some (s.1, M))))
def fX9_wait (a1 : Int32) (a2 : Int32) (M : hMem) : Option (Int32 × hMem) := if (fX9_isHat a1 M) = 0 then (some ((-5), M)) else (if (fX9_isCatcher a2 M) = 0 then (some ((-5), M)) else ((fX9_hadNow a1 a2 M).bind fun q22 => if h_ib a2 4 then (h_lp (fX9_wait_L43 q22.1 (11 + a2.toNatClampNeg) q22.2) h_FU ((-1), 0)) else none))
def fX9_pace_L65  (v3 : Int32) (v4 : Nat) (M : hMem) (k65 : Int32 → Option (Int32 × hMem)) (s : Int32) : Option (Int32 × hMem) := if 4 < s then (some ((-1), M)) else ((fX8_had 47 (M v4 0) 0 s (M v4 2) M).bind fun q95 => if q95 < 0 then (k65 (s + 1)) else (if v3 = 0 then (some (s, M)) else (if v3 ≤ q95 then (k65 (s + 1)) else (some (s, M)))))
def fX9_pace (a1 : Int32) (a2 : Int32) (a3 : Int32) (M : hMem) : Option (Int32 × hMem) := if (fX9_isHat a1 M) = 0 then (some ((-5), M)) else (if (fX9_isCatcher a2 M) = 0 then (some ((-5), M)) else (if a3 < 0 then (some ((-7), M)) else (if a3 ≤ 24 then ((fX9_think a1 M).bind fun q34 => (fX8_follow 47 q34).bind fun q48 => if h_ib a2 4 then (h_lp (fX9_pace_L65 a3 (11 + a2.toNatClampNeg) q48) h_FU 0) else none) else (some ((-7), M)))))
def fX1_fetch_L39 (rc : Nat → Int32 → Int32 → Int32 → Int32 → hMem → Option hMem)  (v2 : Int32) (v3 : Int32) (v4 : Int32) (v5 : Int32)  (k39 : (Int32 × hMem) → Option hMem) (s : Int32 × hMem) : Option hMem := if (s.2 49 3) ≤ s.1 then (some s.2) else (if ((h_ushr v2 s.1) &&& 1) = 0 then (if h_ib s.1 4 then ((fX8_had (51 + s.1.toNatClampNeg) v4 v5 (s.2 49 4) (s.2 49 5) s.2).bind fun q77 => if q77 < 0 then (k39 (s.1 + 1, s.2)) else (if h_ib s.1 4 then (if h_ib q77 25 then ((rc 0 (v2 ||| (1 <<< (s.1 &&& 31))) (((10 * v3) + s.1) + 1) (fX9_squareOf (s.2 (51 + s.1.toNatClampNeg) q77.toNatClampNeg) s.2) q77 s.2).bind fun q119 => k39 (s.1 + 1, q119)) else none) else none)) else none) else (k39 (s.1 + 1, s.2)))
def fX1_fetch (rc : Nat → Int32 → Int32 → Int32 → Int32 → hMem → Option hMem) (a2 : Int32) (a3 : Int32) (a4 : Int32) (a5 : Int32) (M : hMem) : Option hMem := if a2 = ((1 <<< ((M 49 3) &&& 31)) - 1) then (if (fX9_isSooner a5 (M 49 2) M) = 0 then (some M) else (some (h_up (h_up M 49 1 a3) 49 2 a5))) else (h_lp (fX1_fetch_L39 rc a2 a3 a4 a5) h_FU (0, M))
def fRR_fetch : Nat → Nat → Int32 → Int32 → Int32 → Int32 → hMem → Option hMem
  | 0 => fun _ _ _ _ _ _ => none
  | m + 1 => fun t o0 o1 o2 o3 M => match t with
    | 0 => fX1_fetch (fRR_fetch m) o0 o1 o2 o3 M
    | _ => none
def gX1_fetch (o0 : Int32) (o1 : Int32) (o2 : Int32) (o3 : Int32) (M : hMem) : Option hMem := fRR_fetch 6 0 o0 o1 o2 o3 M
def fX1_plan_L31  (v2 : Nat) (M : hMem) : Option hMem := (gX1_fetch 0 0 (M v2 0) 0 M).bind fun q40 => some q40
def fX1_plan (a2 : Nat) (a3 : Int32) (M : hMem) : Option hMem := if h_isB hYx a2 0 0 = true then (fX1_plan_L31 a2 (h_up (h_up (h_up (h_up (h_up M 49 1 (-1)) 49 2 (-1)) 49 3 a3) 49 4 ((h_up (h_up (h_up M 49 1 (-1)) 49 2 (-1)) 49 3 a3) a2 1)) 49 5 ((h_up (h_up (h_up (h_up M 49 1 (-1)) 49 2 (-1)) 49 3 a3) 49 4 ((h_up (h_up (h_up M 49 1 (-1)) 49 2 (-1)) 49 3 a3) a2 1)) a2 2))) else none
def fX9_order_L23  (v1 : Int32) (v2 : Int32)  (k23 : (Int32 × hMem) → Option (Int32 × hMem)) (s : Int32 × hMem) : Option (Int32 × hMem) := if (s.2 1 5) ≤ s.1 then (if h_ib v1 4 then ((fX1_plan (11 + v1.toNatClampNeg) (s.2 1 5) s.2).bind fun q85 => if v2 = 0 then (some (q85 49 1, q85)) else (some (q85 49 2, q85))) else none) else ((fX9_think s.1 s.2).bind fun q36 => if h_ib s.1 4 then ((fX8_follow (51 + s.1.toNatClampNeg) q36).bind fun q52 => k23 (s.1 + 1, q52)) else none)
def fX9_order (a1 : Int32) (a2 : Int32) (M : hMem) : Option (Int32 × hMem) := if (fX9_isCatcher a1 M) = 0 then (some ((-5), M)) else (if (fX9_isZeroOrOne a2 M) = 0 then (some ((-7), M)) else (h_lp (fX9_order_L23 a1 a2) h_FU (0, M)))
def fX9_worthHad (a1 : Int32) (a2 : Int32) (M : hMem) : Option (Int32 × hMem) := (fX9_think a1 M).bind fun q2 => if h_ib a2 4 then ((fX8_hadBy (11 + a2.toNatClampNeg) q2).bind fun q18 => if 0 ≤ q18.1 then (if h_ib a2 4 then (if h_ib q18.1 25 then ((fX8_tell (q18.2 (11 + a2.toNatClampNeg) 1) q18.1 (q18.2 47 q18.1.toNatClampNeg) q18.2).bind fun q55 => if h_isB hYx (q55 40 6).toNatClampNeg 3 0 = true then ((fX4_says ((q55 40 6).toNatClampNeg) 2 q55).bind fun q73 => some (q73.1, q73.2)) else none) else none) else none) else (some ((-100), q18.2))) else none
def fX9_gain (a1 : Int32) (a2 : Int32) (M : hMem) : Option (Int32 × hMem) := if (fX9_isHat a1 M) = 0 then (some ((-1000), M)) else (if (fX9_isCatcher a2 M) = 0 then (some ((-1000), M)) else ((fX9_worthHad a1 a2 M).bind fun q19 => some (q19.1, q19.2)))
def fX9_whom_L29  (v1 : Int32) (v2 : Int32)  (k29 : (Int32 × Int32 × Int32 × hMem) → Option (Int32 × hMem)) (s : Int32 × Int32 × Int32 × hMem) : Option (Int32 × hMem) := if (s.2.2.2 1 5) ≤ s.2.2.1 then (if v2 = 0 then (some (s.1, s.2.2.2)) else (some (s.2.1, s.2.2.2))) else ((fX9_worthHad s.2.2.1 v1 s.2.2.2).bind fun q45 => if q45.1 ≤ s.2.1 then (k29 (s.1, s.2.1, s.2.2.1 + 1, q45.2)) else (k29 (s.2.2.1, q45.1, s.2.2.1 + 1, q45.2)))
def fX9_whom (a1 : Int32) (a2 : Int32) (M : hMem) : Option (Int32 × hMem) := if (fX9_isCatcher a1 M) = 0 then (some ((-5), M)) else (if (fX9_isZeroOrOne a2 M) = 0 then (some ((-7), M)) else (h_lp (fX9_whom_L29 a1 a2) h_FU ((-1), 0, 0, M)))
def fX2_become (a0 : Nat) (a1 : Nat) (M : hMem) : Option hMem := if h_isB hYx a0 2 0 = true then (if h_isB hYx a1 2 0 = true then (some (h_up (h_up (h_up M a0 0 (M a1 0)) a0 1 ((h_up M a0 0 (M a1 0)) a1 1)) a0 2 ((h_up (h_up M a0 0 (M a1 0)) a0 1 ((h_up M a0 0 (M a1 0)) a1 1)) a1 2))) else none) else none
def fX7_removeHat_L2    (k2 : (Int32 × hMem) → Option hMem) (s : Int32 × hMem) : Option hMem := if (s.2 1 5) ≤ (s.1 + 1) then (some (h_up s.2 1 5 ((s.2 1 5) - 1))) else (if h_ib s.1 4 then (if h_ib (s.1 + 1) 4 then ((fX2_become (7 + s.1.toNatClampNeg) (7 + (s.1 + 1).toNatClampNeg) s.2).bind fun q26 => k2 (s.1 + 1, q26)) else none) else none)
def fX7_removeHat (a1 : Int32) (M : hMem) : Option hMem := h_lp (fX7_removeHat_L2) h_FU (a1, M)
def fX9_run (a1 : Int32) (a2 : Int32) (M : hMem) : Option (Int32 × hMem) := if (fX9_isHat a1 M) = 0 then (some ((-5), M)) else (if (fX9_isCatcher a2 M) = 0 then (some ((-5), M)) else ((fX9_hadNow a1 a2 M).bind fun q22 => if 0 ≤ q22.1 then ((fX9_letPass q22.1 q22.2).bind fun q35 => if h_ib a2 4 then (if h_ib a1 4 then ((fX7_removeHat a1 (h_up q35 (11 + a2.toNatClampNeg) 0 (fX9_squareOf (q35 (7 + a1.toNatClampNeg) 2) q35))).bind fun q70 => some (q22.1, q70)) else none) else none) else (some ((-3), q22.2))))
def fX9_held (a1 : Int32) (a2 : Int32) (a3 : Int32) (M : hMem) : Option (Int32 × hMem) := if (fX9_isHat a1 M) = 0 then (some ((-5), M)) else (if (fX9_isBehind a2 M) = 0 then (some ((-7), M)) else (if a3 < 0 then (some ((-7), M)) else (if (fX9_isSecond (a3 / 100) M) = 0 then (some ((-7), M)) else (if (fX9_isBehind (h_rem a3 100) M) = 0 then (some ((-7), M)) else ((fX9_think a1 M).bind fun q47 => (fX8_later (q47 40 5) 0 (fJ9_min_7cf53 a2 (a3 / 100) q47) q47).bind fun q89 => (fX8_later q89.1 (fJ9_min_7cf53 a2 ((a3 / 100) + (h_rem a3 100)) q47) a2 q89.2).bind fun q103 => some (fX9_squareOf q103.1 q103.2, q103.2))))))
def fX9_save_L62 (k54 : (Int32 × hMem) → Option (Int32 × hMem)) (v2 : Int32)  (k62 : (Int32 × hMem) → Option (Int32 × hMem)) (s : Int32 × hMem) : Option (Int32 × hMem) := if 24 < (s.1 + v2) then (k54 (v2 + 1, s.2)) else (if h_ib s.1 25 then ((fX8_later (s.2 47 s.1.toNatClampNeg) (s.1 + v2) 24 s.2).bind fun q92 => if (fX8_isWet q92.1 q92.2) = 0 then (some ((100 * s.1) + v2, q92.2)) else (k62 (s.1 + 1, q92.2))) else none)
def fX9_save_L54    (k54 : (Int32 × hMem) → Option (Int32 × hMem)) (s : Int32 × hMem) : Option (Int32 × hMem) := if 24 < s.1 then (some ((-1), s.2)) else (h_lp (fX9_save_L62 k54 s.1) h_FU (0, s.2))
def fX9_save (a1 : Int32) (M : hMem) : Option (Int32 × hMem) := if (fX9_isHat a1 M) = 0 then (some ((-5), M)) else ((fX9_think a1 M).bind fun q13 => (fX8_follow 47 q13).bind fun q27 => if (fX8_isWet (q27 47 24) q27) = 0 then (some (0, q27)) else (h_lp (fX9_save_L54) h_FU (1, q27)))
def fX9_turned_L57  (v2 : Int32) (v3 : Int32) (v4 : Int32)  (k57 : (Int32 × Int32 × hMem) → Option (Int32 × hMem)) (s : Int32 × Int32 × hMem) : Option (Int32 × hMem) := if 4 < s.2.1 then (some (s.1, s.2.2)) else (if h_ib v2 24 then ((fX8_later v4 v2 24 (h_up s.2.2 45 v2.toNatClampNeg s.2.1)).bind fun q83 => if (fX9_squareOf q83.1 q83.2) = v3 then (k57 (s.1 ||| (1 <<< (s.2.1 &&& 31)), s.2.1 + 1, q83.2)) else (k57 (s.1, s.2.1 + 1, q83.2))) else none)
def fX9_turned (a1 : Int32) (a2 : Int32) (a3 : Int32) (M : hMem) : Option (Int32 × hMem) := if (fX9_isHat a1 M) = 0 then (some ((-5), M)) else (if (fX9_isSecond a2 M) = 0 then (some ((-7), M)) else (if (fX9_isSquare a3 M) = 0 then (some ((-7), M)) else ((fX9_think a1 M).bind fun q30 => (fX8_later (q30 40 5) 0 a2 q30).bind fun q46 => h_lp (fX9_turned_L57 a2 a3 q46.1) h_FU (0, 0, q46.2))))
def fX9_lull_L31  (v2 : Int32) (v3 : Int32)  (k31 : (Int32 × Int32 × Int32 × hMem) → Option (Int32 × hMem)) (s : Int32 × Int32 × Int32 × hMem) : Option (Int32 × hMem) := if 24 ≤ s.2.2.1 then (if v3 = 0 then (some (s.2.1, s.2.2.2)) else (some (s.1, s.2.2.2))) else (if h_ib s.2.2.1 24 then (if h_ib v2 4 then ((fX8_hadBy (11 + v2.toNatClampNeg) (h_up s.2.2.2 45 s.2.2.1.toNatClampNeg 4)).bind fun q62 => if h_ib s.2.2.1 24 then (if h_ib s.2.2.1 24 then (if (fX9_isSooner q62.1 s.1 (h_up q62.2 45 s.2.2.1.toNatClampNeg (q62.2 3 s.2.2.1.toNatClampNeg))) = 0 then (k31 (s.1, s.2.1, s.2.2.1 + 1, h_up q62.2 45 s.2.2.1.toNatClampNeg (q62.2 3 s.2.2.1.toNatClampNeg))) else (k31 (q62.1, s.2.2.1, s.2.2.1 + 1, h_up q62.2 45 s.2.2.1.toNatClampNeg (q62.2 3 s.2.2.1.toNatClampNeg)))) else none) else none) else none) else none)
def fX9_lull (a1 : Int32) (a2 : Int32) (a3 : Int32) (M : hMem) : Option (Int32 × hMem) := if (fX9_refusalOfPair a1 a2 a3 M) = 0 then ((fX9_hadNow a1 a2 M).bind fun q20 => h_lp (fX9_lull_L31 a2 a3) h_FU (q20.1, (-1), 0, q20.2)) else (some (fX9_refusalOfPair a1 a2 a3 M, M))
def fX9_fence_L58  (v2 : Int32) (v3 : Int32) (v6 : Int32)  (k58 : (Int32 × Int32 × Int32 × hMem) → Option (Int32 × hMem)) (s : Int32 × Int32 × Int32 × hMem) : Option (Int32 × hMem) := if 32 ≤ s.2.2.1 then (if v3 = 0 then (some (s.2.1, s.2.2.2)) else (some (s.1, s.2.2.2))) else (if ((h_ushr v6 s.2.2.1) &&& 1) = 0 then (if h_ib v2 4 then ((fX8_hadBy (11 + v2.toNatClampNeg) (h_up s.2.2.2 40 0 ((s.2.2.2 2 0) ||| (1 <<< (s.2.2.1 &&& 31))))).bind fun q109 => if (fX9_isSooner q109.1 s.1 q109.2) = 0 then (k58 (s.1, s.2.1, s.2.2.1 + 1, q109.2)) else (k58 (q109.1, s.2.2.1, s.2.2.1 + 1, q109.2))) else none) else (k58 (s.1, s.2.1, s.2.2.1 + 1, s.2.2.2)))
def fX9_fence (a1 : Int32) (a2 : Int32) (a3 : Int32) (M : hMem) : Option (Int32 × hMem) := if (fX9_refusalOfPair a1 a2 a3 M) = 0 then ((fX9_hadNow a1 a2 M).bind fun q20 => (fX7_hatSquares q20.2).bind fun q38 => (fX7_catcherSquares q20.2).bind fun q46 => h_lp (fX9_fence_L58 a2 a3 (((q20.2 2 0) ||| q38) ||| q46)) h_FU (q20.1, (-1), 0, q20.2)) else (some (fX9_refusalOfPair a1 a2 a3 M, M))
def fX9_isSheet (a0 : Int32) (M : hMem) : Int32 := if a0 < 0 then 0 else (if 4 ≤ a0 then 0 else 1)
def fX9_refusalOfTold (a1 : Int32) (M : hMem) : Option Int32 := if (fX9_isSheet a1 M) = 0 then (some (-2)) else (if h_ib a1 4 then (if (M (80 + 2 * a1.toNatClampNeg) 0) = (-1) then (some (-11)) else (if h_ib a1 4 then (if (M (80 + 2 * a1.toNatClampNeg) 1) ≤ 25 then (some 0) else (some (-2))) else none)) else none)
def fX9_refusalOfWay (a1 : Int32) (a2 : Int32) (M : hMem) : Option Int32 := (fX9_refusalOfTold a1 M).bind fun q2 => if q2 = 0 then (if (fX9_isHat a2 M) = 0 then (some (-5)) else (some q2)) else (some q2)
def fX8_elsewhere_L5  (v1 : Nat)  (k5 : (Int32 × Int32 × hMem) → Option (Int32 × hMem)) (s : Int32 × Int32 × hMem) : Option (Int32 × hMem) := if (s.2.2 v1 1) ≤ s.2.1 then (some ((-1), s.2.2)) else (if h_ib s.2.1 40 then (if (s.2.2 (v1 + 1) s.2.1.toNatClampNeg) = (fX9_squareOf s.1 s.2.2) then ((fX8_next s.2.1 s.1 s.2.2).bind fun q35 => k5 (q35.1, s.2.1 + 1, q35.2)) else (some (s.2.1, s.2.2))) else none)
def fX8_elsewhere (a1 : Nat) (a2 : Int32) (M : hMem) : Option (Int32 × hMem) := if h_isB hYx a1 5 0 = true then (h_lp (fX8_elsewhere_L5 a1) h_FU (a2, 0, M)) else none
def fX9_judge (a1 : Int32) (a2 : Int32) (M : hMem) : Option (Int32 × hMem) := (fX9_refusalOfWay a1 a2 M).bind fun q3 => if q3 = 0 then ((fX9_think a2 M).bind fun q15 => if h_ib a1 4 then ((fX8_elsewhere (80 + 2 * a1.toNatClampNeg) (q15 40 5) q15).bind fun q35 => some (q35.1, q35.2)) else none) else (some (q3, M))
def fX9_whose_L17  (v1 : Int32)  (k17 : (Int32 × Int32 × hMem) → Option (Int32 × hMem)) (s : Int32 × Int32 × hMem) : Option (Int32 × hMem) := if (s.2.2 1 5) ≤ s.2.1 then (some (s.1, s.2.2)) else ((fX9_think s.2.1 s.2.2).bind fun q32 => if h_ib v1 4 then ((fX8_elsewhere (80 + 2 * v1.toNatClampNeg) (q32 40 5) q32).bind fun q52 => if 0 ≤ q52.1 then (k17 (s.1, s.2.1 + 1, q52.2)) else (k17 (s.1 ||| (1 <<< (s.2.1 &&& 31)), s.2.1 + 1, q52.2))) else none)
def fX9_whose (a1 : Int32) (M : hMem) : Option (Int32 × hMem) := (fX9_refusalOfTold a1 M).bind fun q2 => if q2 = 0 then (h_lp (fX9_whose_L17 a1) h_FU (0, 0, M)) else (some (q2, M))
def fX9_lay_L33 (k24 : (Int32 × Int32 × hMem) → Option (Int32 × hMem)) (v1 : Int32) (v5 : Int32)  (k33 : (Int32 × Int32 × hMem) → Option (Int32 × hMem)) (s : Int32 × Int32 × hMem) : Option (Int32 × hMem) := if 32 ≤ s.2.1 then (k24 (s.1, v5 + 1, s.2.2)) else (if (fX9_isOpen s.2.1 s.2.2) = 0 then (k33 (s.1, s.2.1 + 1, s.2.2)) else (if h_ib v1 4 then ((fX8_elsewhere (80 + 2 * v1.toNatClampNeg) (fX9_stateOf s.2.1 v5 s.2.2) s.2.2).bind fun q66 => if 0 ≤ q66.1 then (k33 (s.1, s.2.1 + 1, q66.2)) else (k33 (s.1 ||| (1 <<< (v5 &&& 31)), s.2.1 + 1, q66.2))) else none))
def fX9_lay_L24  (v1 : Int32)  (k24 : (Int32 × Int32 × hMem) → Option (Int32 × hMem)) (s : Int32 × Int32 × hMem) : Option (Int32 × hMem) := if 3 ≤ s.2.1 then (some (s.1, s.2.2)) else (h_lp (fX9_lay_L33 k24 v1 s.2.1) h_FU (s.1, 0, s.2.2))
def fX9_lay (a1 : Int32) (a2 : Int32) (M : hMem) : Option (Int32 × hMem) := (fX9_refusalOfWay a1 a2 M).bind fun q3 => if q3 = 0 then ((fX9_think a2 M).bind fun q15 => h_lp (fX9_lay_L24 a1) h_FU (0, 0, q15)) else (some (q3, M))
def fX9_kinds_L82 (k50 : (Int32 × Int32 × hMem) → Option (Int32 × hMem)) (v1 : Int32) (v3 : Int32) (v5 : Int32) (v6 : Int32) (v7 : Int32) (M : hMem) : Option (Int32 × hMem) := if h_ib v1 4 then ((fX8_elsewhere (80 + 2 * v1.toNatClampNeg) (M 40 5) M).bind fun q99 => if 0 ≤ q99.1 then (k50 (v5, v7 + 1, q99.2)) else (k50 (v5 ||| (1 <<< (v7 &&& 31)), v7 + 1, q99.2))) else none
def fX9_kinds_L50  (v1 : Int32) (v3 : Int32) (v6 : Int32)  (k50 : (Int32 × Int32 × hMem) → Option (Int32 × hMem)) (s : Int32 × Int32 × hMem) : Option (Int32 × hMem) := if v6 ≤ s.2.1 then (some (s.1, s.2.2)) else (if v3 = 0 then (fX9_kinds_L82 k50 v1 v3 s.1 v6 s.2.1 (h_up s.2.2 40 3 s.2.1)) else (fX9_kinds_L82 k50 v1 v3 s.1 v6 s.2.1 (h_up s.2.2 40 4 s.2.1)))
def fX9_kinds (a1 : Int32) (a2 : Int32) (a3 : Int32) (M : hMem) : Option (Int32 × hMem) := (fX9_refusalOfWay a1 a2 M).bind fun q3 => if q3 = 0 then (if (fX9_isZeroOrOne a3 M) = 0 then (some ((-7), M)) else ((fX9_think a2 M).bind fun q28 => if a3 = 0 then (h_lp (fX9_kinds_L50 a1 a3 6) h_FU (0, 0, q28)) else (h_lp (fX9_kinds_L50 a1 a3 10) h_FU (0, 0, q28)))) else (some (q3, M))
def fX9_laws_L24  (v1 : Int32)  (k24 : (Int32 × Int32 × hMem) → Option (Int32 × hMem)) (s : Int32 × Int32 × hMem) : Option (Int32 × hMem) := if (s.2.2 0 4) ≤ s.2.1 then (some (s.1, s.2.2)) else (if h_ib s.2.1 6 then (if h_ib v1 4 then ((fX8_elsewhere (80 + 2 * v1.toNatClampNeg) ((h_up s.2.2 40 6 (nI (56 + 4 * s.2.1.toNatClampNeg))) 40 5) (h_up s.2.2 40 6 (nI (56 + 4 * s.2.1.toNatClampNeg)))).bind fun q64 => if 0 ≤ q64.1 then (k24 (s.1, s.2.1 + 1, q64.2)) else (k24 (s.1 ||| (1 <<< (s.2.1 &&& 31)), s.2.1 + 1, q64.2))) else none) else none)
def fX9_laws (a1 : Int32) (a2 : Int32) (M : hMem) : Option (Int32 × hMem) := (fX9_refusalOfWay a1 a2 M).bind fun q3 => if q3 = 0 then ((fX9_think a2 M).bind fun q15 => h_lp (fX9_laws_L24 a1) h_FU (0, 0, q15)) else (some (q3, M))
def fX6_becomeEmpty_L12  (v0 : Nat)  (k12 : (Int32 × hMem) → Option hMem) (s : Int32 × hMem) : Option hMem := if 40 ≤ s.1 then (some s.2) else (if h_ib s.1 40 then (k12 (s.1 + 1, h_up s.2 (v0 + 1) s.1.toNatClampNeg 0)) else none)
def fX6_becomeEmpty (a0 : Nat) (a1 : Int32) (a2 : Int32) (M : hMem) : Option hMem := if h_isB hYx a0 5 0 = true then (h_lp (fX6_becomeEmpty_L12 a0) h_FU (0, h_up (h_up M a0 0 a1) a0 1 a2)) else none
def fX6_put (a0 : Nat) (a1 : Int32) (a2 : Int32) (M : hMem) : Option hMem := if h_isB hYx a0 5 0 = true then (if a1 < 0 then (some M) else (if a1 < (M a0 1) then (if (M a0 0) = 0 then (if h_ib a1 40 then (some (h_up M (a0 + 1) a1.toNatClampNeg a2.toInt8.toInt32)) else none) else (if (M a0 0) = 1 then (if h_ib a1 40 then (some (h_up M (a0 + 1) a1.toNatClampNeg a2.toInt16.toInt32)) else none) else (if h_ib a1 40 then (some (h_up M (a0 + 1) a1.toNatClampNeg a2)) else none))) else (some M))) else none
def fX9_film_L67  (v1 : Int32) (v3 : Int32)  (k67 : (Int32 × hMem) → Option (Int32 × hMem)) (s : Int32 × hMem) : Option (Int32 × hMem) := if v3 ≤ s.1 then (some (v3, s.2)) else (if h_ib v1 4 then (if h_ib s.1 25 then ((fX6_put (80 + 2 * v1.toNatClampNeg) s.1 (fX9_squareOf (s.2 47 s.1.toNatClampNeg) s.2) s.2).bind fun q94 => k67 (s.1 + 1, q94)) else none) else none)
def fX9_film (a1 : Int32) (a2 : Int32) (a3 : Int32) (M : hMem) : Option (Int32 × hMem) := if (fX9_isSheet a1 M) = 0 then (some ((-2), M)) else (if (fX9_isHat a2 M) = 0 then (some ((-5), M)) else (if a3 < 0 then (some ((-7), M)) else (if a3 ≤ 25 then ((fX9_think a2 M).bind fun q36 => (fX8_follow 47 q36).bind fun q50 => if h_ib a1 4 then ((fX6_becomeEmpty (80 + 2 * a1.toNatClampNeg) 2 a3 q50).bind fun q61 => h_lp (fX9_film_L67 a1 a3) h_FU (0, q61)) else none) else (some ((-7), M)))))
def fX9_isSeed (a0 : Int32) (M : hMem) : Int32 := if a0 < 0 then 0 else (if 99999 < a0 then 0 else 1)
def fX8_drawGusts_L8    (k8 : (Int64 × Int32 × hMem) → Option hMem) (s : Int64 × Int32 × hMem) : Option hMem := if 24 ≤ s.2.1 then (some s.2.2) else (if h_ib s.2.1 24 then (if h_ib s.2.1 24 then (k8 (h_lrem (s.1 * 48271) 2147483647, s.2.1 + 1, h_up (h_up s.2.2 45 s.2.1.toNatClampNeg ((h_lrem (h_lrem (s.1 * 48271) 2147483647) 5).toInt32)) 46 s.2.1.toNatClampNeg ((h_lrem ((h_lrem (s.1 * 48271) 2147483647) / 5) 10).toInt32))) else none) else none)
def fX8_drawGusts (a1 : Int32) (M : hMem) : Option hMem := h_lp (fX8_drawGusts_L8) h_FU ((a1 + 1).toInt64, 0, M)
def fX9_drawn (a1 : Int32) (a2 : Int32) (a3 : Int32) (M : hMem) : Option (Int32 × hMem) := if (fX9_isHat a2 M) = 0 then (some ((-5), M)) else (if (fX9_isSeed a1 M) = 0 then (some ((-7), M)) else (if (fX9_isBehind a3 M) = 0 then (some ((-7), M)) else ((fX9_think a2 M).bind fun q30 => (fX8_drawGusts a1 q30).bind fun q38 => (fX8_later (q38 40 5) 0 a3 q38).bind fun q54 => some (fX9_squareOf q54.1 q54.2, q54.2))))
def fJ9_max_7cf53 (a0 : Int32) (a1 : Int32) (M : hMem) : Int32 := if a0 < a1 then a1 else a0
def fX9_commonDivisor_L6  (v0 : Int32) (v1 : Int32) (M : hMem) (k6 : Int32 → Option Int32) (s : Int32) : Option Int32 := if s ≤ 1 then (some 1) else (if s = 0 then none else if (h_rem v0 s) = 0 then (if s = 0 then none else if (h_rem v1 s) = 0 then (some s) else (k6 (s + (-1)))) else (k6 (s + (-1))))
def fX9_commonDivisor (a0 : Int32) (a1 : Int32) (M : hMem) : Option Int32 := h_lp (fX9_commonDivisor_L6 a0 a1 M) h_FU (fJ9_max_7cf53 a0 a1 M)
def fX9_odds_L74  (v1 : Int32) (v2 : Int32) (v3 : Int32) (v4 : Int32)  (k74 : (Int32 × Int32 × hMem) → Option (Int64 × hMem)) (s : Int32 × Int32 × hMem) : Option (Int64 × hMem) := if v2 ≤ s.2.1 then ((fX9_commonDivisor s.1 v2 s.2.2).bind fun q125 => if v4 = 0 then (if q125 = 0 then none else some ((s.1 / q125).toInt64, s.2.2)) else (if q125 = 0 then none else some ((v2 / q125).toInt64, s.2.2))) else ((fX8_drawGusts (v1 + s.2.1) s.2.2).bind fun q88 => if h_ib (h_rem v3 10) 4 then ((fX8_hadBy (11 + (h_rem v3 10).toNatClampNeg) q88).bind fun q107 => if q107.1 < 0 then (k74 (s.1, s.2.1 + 1, q107.2)) else (k74 (s.1 + 1, s.2.1 + 1, q107.2))) else none)
def fX9_odds (a1 : Int32) (a2 : Int32) (a3 : Int32) (a4 : Int32) (M : hMem) : Option (Int64 × hMem) := if (fX9_isSeed a1 M) = 0 then (some ((-4611686018427387904), M)) else (if a2 < 1 then (some ((-4611686018427387904), M)) else (if 30 < a2 then (some ((-4611686018427387904), M)) else (if (fX9_isZeroOrOne a4 M) = 0 then (some ((-4611686018427387904), M)) else (if a3 < 0 then (some ((-4611686018427387904), M)) else (if (fX9_isHat (a3 / 10) M) = 0 then (some ((-4611686018427387904), M)) else (if (fX9_isCatcher (h_rem a3 10) M) = 0 then (some ((-4611686018427387904), M)) else ((fX9_think (a3 / 10) M).bind fun q65 => h_lp (fX9_odds_L74 a1 a2 a3 a4) h_FU (0, 0, q65))))))))
def fX0_become (a0 : Nat) (a1 : Nat) (M : hMem) : Option hMem := if h_isB hYx a0 0 0 = true then (if h_isB hYx a1 0 0 = true then (some (h_up (h_up (h_up M a0 0 (M a1 0)) a0 1 ((h_up M a0 0 (M a1 0)) a1 1)) a0 2 ((h_up (h_up M a0 0 (M a1 0)) a0 1 ((h_up M a0 0 (M a1 0)) a1 1)) a1 2))) else none) else none
def fX7_become_L74  (v0 : Nat) (v1 : Nat)  (k74 : (Int32 × hMem) → Option hMem) (s : Int32 × hMem) : Option hMem := if 4 ≤ s.1 then (some (h_up (h_up (h_up s.2 v0 5 (s.2 v1 5)) v0 6 ((h_up s.2 v0 5 (s.2 v1 5)) v1 6)) v0 7 ((h_up (h_up s.2 v0 5 (s.2 v1 5)) v0 6 ((h_up s.2 v0 5 (s.2 v1 5)) v1 6)) v1 7))) else (if h_ib s.1 4 then (if h_ib s.1 4 then ((fX0_become (v0 + 10 + s.1.toNatClampNeg) (v1 + 10 + s.1.toNatClampNeg) s.2).bind fun q91 => k74 (s.1 + 1, q91)) else none) else none)
def fX7_become_L46  (v0 : Nat) (v1 : Nat)  (k46 : (Int32 × hMem) → Option hMem) (s : Int32 × hMem) : Option hMem := if 4 ≤ s.1 then (h_lp (fX7_become_L74 v0 v1) h_FU (0, s.2)) else (if h_ib s.1 4 then (if h_ib s.1 4 then ((fX2_become (v0 + 6 + s.1.toNatClampNeg) (v1 + 6 + s.1.toNatClampNeg) s.2).bind fun q63 => k46 (s.1 + 1, q63)) else none) else none)
def fX7_become (a0 : Nat) (a1 : Nat) (M : hMem) : Option hMem := if h_isB hYx a0 6 0 = true then (if h_isB hYx a1 6 0 = true then (if h_cpb 0 0 3 3 3 = true then (if h_cpb 0 0 24 24 24 = true then (if h_cpb 0 0 24 24 24 = true then (h_lp (fX7_become_L46 a0 a1) h_FU (0, h_cp (h_cp (h_cp M (a1 + 1) 0 (a0 + 1) 0 3) (a1 + 2) 0 (a0 + 2) 0 24) (a1 + 3) 0 (a0 + 3) 0 24)) else none) else none) else none) else none) else none
def fX9_image  (M : hMem) : Option (Int32 × hMem) := (fX7_become 15 1 M).bind fun q8 => some ((h_up q8 0 2 1) 1 5, h_up q8 0 2 1)
def fX9_back  (M : hMem) : Option (Int32 × hMem) := if (M 0 2) = 0 then (some ((-3), M)) else ((fX7_become 1 15 M).bind fun q18 => some (q18 1 5, q18))
def fX9_sheet_L43  (v1 : Int32) (v2 : Int32) (v3 : Int32) (M : hMem) : Option (Int32 × hMem) := if h_ib v1 4 then (if v2 = (-1) then ((fX6_becomeEmpty (80 + 2 * v1.toNatClampNeg) v2 0 M).bind fun q60 => some (1, q60)) else ((fX6_becomeEmpty (80 + 2 * v1.toNatClampNeg) v2 v3 M).bind fun q60 => some (1, q60))) else none
def fX9_sheet_L31  (v1 : Int32) (v2 : Int32) (v3 : Int32) (M : hMem) : Option (Int32 × hMem) := if v2 = (-1) then (fX9_sheet_L43 v1 v2 v3 M) else (if 0 ≤ v3 then (fX9_sheet_L43 v1 v2 v3 M) else (some ((-14), M)))
def fX9_sheet (a1 : Int32) (a2 : Int32) (a3 : Int32) (M : hMem) : Option (Int32 × hMem) := if (fX9_isSheet a1 M) = 0 then (some ((-2), M)) else (if a2 < (-1) then (some ((-2), M)) else (if 2 < a2 then (some ((-2), M)) else (if a2 = (-1) then (fX9_sheet_L31 a1 a2 a3 M) else (if a3 ≤ 40 then (fX9_sheet_L31 a1 a2 a3 M) else (some ((-2), M))))))
def fX9_cell (a1 : Int32) (a2 : Int32) (a3 : Int32) (M : hMem) : Option (Int32 × hMem) := if (fX9_isSheet a1 M) = 0 then (some ((-2), M)) else (if h_ib a1 4 then (if (M (80 + 2 * a1.toNatClampNeg) 0) = (-1) then (some ((-11), M)) else (if a2 < 0 then (some ((-12), M)) else (if h_ib a1 4 then (if a2 < (M (80 + 2 * a1.toNatClampNeg) 1) then (if h_ib a1 4 then ((fX6_put (80 + 2 * a1.toNatClampNeg) a2 a3 M).bind fun q54 => some (1, q54)) else none) else (some ((-12), M))) else none))) else none)
def fX9_copy (a1 : Int32) (a2 : Int32) (a3 : Int32) (a4 : Int32) (a5 : Int32) (M : hMem) : Option (Int32 × hMem) := if (fX9_isSheet a1 M) = 0 then (some ((-2), M)) else (if (fX9_isSheet a3 M) = 0 then (some ((-2), M)) else (if h_ib a1 4 then (if h_ib a3 4 then (if (M (80 + 2 * a1.toNatClampNeg) 0) = (-1) then (some ((-11), M)) else (if (M (80 + 2 * a3.toNatClampNeg) 0) = (-1) then (some ((-11), M)) else (if (M (80 + 2 * a1.toNatClampNeg) 0) = (M (80 + 2 * a3.toNatClampNeg) 0) then (if a5 < 0 then (some ((-12), M)) else (if a2 < 0 then (some ((-12), M)) else (if a4 < 0 then (some ((-12), M)) else (if ((M (80 + 2 * a1.toNatClampNeg) 1) - a5) < a2 then (some ((-12), M)) else (if a4 ≤ ((M (80 + 2 * a3.toNatClampNeg) 1) - a5) then (if h_cpb a2 a4 a5 40 40 = true then (some (a5, h_cp M ((80 + 2 * a1.toNatClampNeg) + 1) a2 ((80 + 2 * a3.toNatClampNeg) + 1) a4 a5)) else none) else (some ((-12), M))))))) else (some ((-13), M))))) else none) else none))
def fX9_gustsBy_L72  (v4 : Int32) (v5 : Nat)  (k72 : (Int32 × Int32 × Int32 × hMem) → Option (Int32 × hMem)) (s : Int32 × Int32 × Int32 × hMem) : Option (Int32 × hMem) := if v4 ≤ s.2.2.1 then (some (s.1, s.2.2.2)) else (if s.2.1 < 0 then (some ((-12), s.2.2.2)) else (if s.2.1 ≤ ((s.2.2.2 v5 1) - 3) then (if h_ib s.2.1 40 then (if h_ib (s.2.1 + 1) 40 then (if h_ib (s.2.1 + 2) 40 then ((fX9_blow (s.2.2.2 (v5 + 1) s.2.1.toNatClampNeg) (s.2.2.2 (v5 + 1) (s.2.1 + 1).toNatClampNeg) (s.2.2.2 (v5 + 1) (s.2.1 + 2).toNatClampNeg) s.2.2.2).bind fun q128 => if q128.1 < 0 then (k72 (s.1, s.2.1 + 3, s.2.2.1 + 1, q128.2)) else (k72 (s.1 + 1, s.2.1 + 3, s.2.2.1 + 1, q128.2))) else none) else none) else none) else (some ((-12), s.2.2.2))))
def fX9_gustsBy (a1 : Int32) (a2 : Int32) (a3 : Int32) (a4 : Int32) (M : hMem) : Option (Int32 × hMem) := if (fX9_isSheet a1 M) = 0 then (some ((-2), M)) else (if a2 < 0 then (some ((-2), M)) else (if 2 < a2 then (some ((-2), M)) else (if a4 < 0 then (some ((-2), M)) else (if a4 ≤ 13 then (if h_ib a1 4 then (if (M (80 + 2 * a1.toNatClampNeg) 0) = (-1) then (some ((-11), M)) else (if (M (80 + 2 * a1.toNatClampNeg) 0) = a2 then (h_lp (fX9_gustsBy_L72 a4 (80 + 2 * a1.toNatClampNeg)) h_FU (0, a3, 0, M)) else (some ((-13), M)))) else none) else (some ((-2), M))))))
def fX9_taken (a1 : Int32) (a2 : Int32) (M : hMem) : Option Int32 := if a2 < 0 then (some (-2)) else (if a2 ≤ 6 then (if a1 < 0 then (some (-12)) else (if a1 < 36 then (if 32 ≤ a1 then (if (fX9_isHat (a1 - 32) M) = 0 then (some (-11)) else (if a2 = 6 then (some (-13)) else (if h_ib (a1 - 32) 4 then ((fX3_isOne (M (7 + (a1 - 32).toNatClampNeg) 0) a2 M).bind fun q121 => if q121 = 0 then (some (-13)) else (some (a1 - 32))) else none))) else (if ((h_ushr ((M 2 1) ||| (M 2 2)) a1) &&& 1) = 0 then (some (-11)) else (if a2 = 6 then (some ((h_ushr (M 2 1) a1) &&& 1)) else (some (-13))))) else (some (-12)))) else (some (-2)))
end
section
def fX10_holds (a1 : Int32) (M : hMem) : Option hMem := if h_ib (M 0 31) 200 then (some (h_up (h_up M 18 (M 0 31).toNatClampNeg a1) 0 31 (((h_up M 18 (M 0 31).toNatClampNeg a1) 0 31) + 1))) else none
def fX10_rank (a0 : Int32) (M : hMem) : Int32 := if a0 = 0 then 0 else (if a0 = 11 then 1 else (if a0 = 12 then 2 else (if a0 = 13 then 3 else (if 15 < a0 then (if 17 < a0 then (if a0 = 18 then 6 else 7) else 5) else 4))))
def fX10_puts (a1 : Int32) (M : hMem) : Option hMem := if h_ib ((200 * (M 0 14)) + (M 0 33)) 1200 then (some (h_up (h_up M 10 ((200 * (M 0 14)) + (M 0 33)).toNatClampNeg a1) 0 33 (((h_up M 10 ((200 * (M 0 14)) + (M 0 33)).toNatClampNeg a1) 0 33) + 1))) else none
def fX10_unwinds_L62 (k0 : hMem → Option hMem) (v1 : Int32) (v2 : Int32) (t1 : Int32) (M : hMem) : Option hMem := (fX10_puts v2 (h_up M 0 32 (t1 - 1))).bind fun q73 => k0 q73
def fX10_unwinds_L0  (v1 : Int32)  (k0 : hMem → Option hMem) (s : hMem) : Option hMem := if (s 0 31) ≤ 0 then (some s) else (if h_ib ((s 0 31) - 1) 200 then (if (fX10_rank (s 18 ((s 0 31) - 1).toNatClampNeg) s) < v1 then (some s) else (if h_ib ((h_up s 0 31 ((s 0 31) - 1)) 0 31) 200 then (if ((h_up s 0 31 ((s 0 31) - 1)) 18 ((h_up s 0 31 ((s 0 31) - 1)) 0 31).toNatClampNeg) = 13 then (fX10_unwinds_L62 k0 v1 ((h_up s 0 31 ((s 0 31) - 1)) 18 ((h_up s 0 31 ((s 0 31) - 1)) 0 31).toNatClampNeg) ((h_up s 0 31 ((s 0 31) - 1)) 0 32) (h_up s 0 31 ((s 0 31) - 1))) else (if ((h_up s 0 31 ((s 0 31) - 1)) 18 ((h_up s 0 31 ((s 0 31) - 1)) 0 31).toNatClampNeg) = 19 then (fX10_unwinds_L62 k0 v1 ((h_up s 0 31 ((s 0 31) - 1)) 18 ((h_up s 0 31 ((s 0 31) - 1)) 0 31).toNatClampNeg) ((h_up s 0 31 ((s 0 31) - 1)) 0 32) (h_up s 0 31 ((s 0 31) - 1))) else ((fX10_puts ((h_up s 0 31 ((s 0 31) - 1)) 18 ((h_up s 0 31 ((s 0 31) - 1)) 0 31).toNatClampNeg) (h_up (h_up s 0 31 ((s 0 31) - 1)) 0 32 (((h_up s 0 31 ((s 0 31) - 1)) 0 32) - 0))).bind fun q73 => k0 q73))) else none)) else none)
def fX10_unwinds (a1 : Int32) (M : hMem) : Option hMem := h_lp (fX10_unwinds_L0 a1) h_FU M
def fX10_between_L17  (v1 : Int32) (t1 : Int32) (M : hMem) : Option (Int32 × hMem) := (fX10_unwinds t1 M).bind fun q17 => if (fX10_rank v1 q17) = 4 then (if (q17 0 31) ≤ 0 then ((fX10_holds v1 q17).bind fun q57 => some (1, q57)) else (if h_ib ((q17 0 31) - 1) 200 then (if (fX10_rank (q17 18 ((q17 0 31) - 1).toNatClampNeg) q17) = 4 then (some (0, q17)) else ((fX10_holds v1 q17).bind fun q57 => some (1, q57))) else none)) else ((fX10_holds v1 q17).bind fun q57 => some (1, q57))
def fX10_between (a1 : Int32) (M : hMem) : Option (Int32 × hMem) := if (fX10_rank a1 M) = 4 then (fX10_between_L17 a1 5 M) else (fX10_between_L17 a1 (fX10_rank a1 M) M)
def fX10_in (a0 : Int32) (a1 : Int32) (a2 : Int32) (M : hMem) : Int32 := if a0 < a1 then 0 else (if a2 < a0 then 0 else 1)
def fX10_wordFrom_L72 (k2 : Int32 → Option Int32) (k26 : (Int32 × Int32) → Option Int32) (v1 : Int32) (v2 : Int32) (v3 : Int32) (v5 : Int32) (t1 : Int32) (t0 : Int32) (M : hMem) : Option Int32 := if t0 = t1 then (k26 (1, v5 + 1)) else (k26 (0, v5 + 1))
def fX10_wordFrom_L26 (k2 : Int32 → Option Int32) (v1 : Int32) (v2 : Int32) (v3 : Int32) (M : hMem) (k26 : (Int32 × Int32) → Option Int32) (s : Int32 × Int32) : Option Int32 := if 8 ≤ s.2 then (if s.1 = 0 then (k2 (v3 + 1)) else (some v3)) else (if s.1 = 0 then (if s.1 = 0 then (k2 (v3 + 1)) else (some v3)) else (if h_ib ((8 * v3) + s.2) 96 then (if v2 ≤ (v1 + s.2) then (fX10_wordFrom_L72 k2 k26 v1 v2 v3 s.2 32 (M 17 ((8 * v3) + s.2).toNatClampNeg) M) else (if h_ib (v1 + s.2) 160 then (fX10_wordFrom_L72 k2 k26 v1 v2 v3 s.2 (M 9 (v1 + s.2).toNatClampNeg) (M 17 ((8 * v3) + s.2).toNatClampNeg) M) else none)) else none))
def fX10_wordFrom_L2  (v1 : Int32) (v2 : Int32) (M : hMem) (k2 : Int32 → Option Int32) (s : Int32) : Option Int32 := if 12 ≤ s then (some 12) else (if 8 < (v2 - v1) then (h_lp (fX10_wordFrom_L26 k2 v1 v2 s M) h_FU (0, 0)) else (h_lp (fX10_wordFrom_L26 k2 v1 v2 s M) h_FU (1, 0)))
def fX10_wordFrom (a1 : Int32) (a2 : Int32) (M : hMem) : Option Int32 := h_lp (fX10_wordFrom_L2 a1 a2 M) h_FU 0
def fX10_next_L39 (k0 : hMem → Option hMem)  (M : hMem) : Option hMem := k0 (h_up M 0 25 ((M 0 25) + 1))
def fX10_next_L379  (v1 : Int32) (t0 : Int32) (M : hMem) : Option hMem := if t0 = 0 then (some (h_up (h_up M 0 27 (-1)) 0 25 (((h_up M 0 27 (-1)) 0 25) + 1))) else (some (h_up (h_up M 0 27 v1) 0 25 (((h_up M 0 27 v1) 0 25) + 1)))
def fX10_next_L309  (v2 : Int32) (M : hMem) : Option hMem := if v2 ≤ 4 then (some (h_up M 0 27 1)) else (some (h_up M 0 27 (-1)))
def fX10_next_L290 (k230 : (Int32 × hMem) → Option hMem) (v2 : Int32) (t1 : Int32) (M : hMem) : Option hMem := k230 (v2 + 1, h_up (h_up M 0 28 t1) 0 25 (((h_up M 0 28 t1) 0 25) + 1))
def fX10_next_L195  (v2 : Int32) (t1 : Int32) (M : hMem) : Option hMem := if 3 ≤ v2 then (some (h_up (h_up M 0 27 t1) 0 28 (v2 - 3))) else (some (h_up (h_up M 0 27 t1) 0 28 v2))
def fX10_next_L374  (v1 : Int32) (M : hMem) : Option hMem := fX10_next_L379 v1 1 M
def fX10_next_L230    (k230 : (Int32 × hMem) → Option hMem) (s : Int32 × hMem) : Option hMem := if (s.2 0 11) ≤ (s.2 0 25) then (fX10_next_L309 s.1 s.2) else (if h_ib (s.2 0 25) 160 then (if (fX10_in (s.2 9 (s.2 0 25).toNatClampNeg) 48 57 s.2) = 0 then (fX10_next_L309 s.1 s.2) else (if 4 ≤ s.1 then (fX10_next_L290 k230 s.1 0 s.2) else (if h_ib (s.2 0 25) 160 then (fX10_next_L290 k230 s.1 (((10 * (s.2 0 28)) + (s.2 9 (s.2 0 25).toNatClampNeg)) - 48) s.2) else none))) else none)
def fX10_next_L146   (M : hMem) : Option hMem := (fX10_wordFrom (M 0 26) (M 0 25) M).bind fun q155 => if 3 ≤ q155 then (if 9 ≤ q155 then (if q155 = 12 then (fX10_next_L195 q155 (-1) M) else (fX10_next_L195 q155 ((4 + q155) - 9) M)) else (fX10_next_L195 q155 2 M)) else (fX10_next_L195 q155 3 M)
def fX10_next_L103    (k103 : hMem → Option hMem) (s : hMem) : Option hMem := if (s 0 11) ≤ (s 0 25) then (fX10_next_L146 s) else (if h_ib (s 0 25) 160 then (if (fX10_in (s 9 (s 0 25).toNatClampNeg) 97 122 s) = 0 then (fX10_next_L146 s) else (k103 (h_up s 0 25 ((s 0 25) + 1)))) else none)
def fX10_next_L52   (M : hMem) : Option hMem := if ((h_up (h_up (h_up M 0 26 (M 0 25)) 0 27 0) 0 28 0) 0 25) = ((h_up (h_up (h_up M 0 26 (M 0 25)) 0 27 0) 0 28 0) 0 11) then (some (h_up (h_up (h_up M 0 26 (M 0 25)) 0 27 0) 0 28 0)) else (if h_ib ((h_up (h_up (h_up M 0 26 (M 0 25)) 0 27 0) 0 28 0) 0 25) 160 then (if (fX10_in ((h_up (h_up (h_up M 0 26 (M 0 25)) 0 27 0) 0 28 0) 9 ((h_up (h_up (h_up M 0 26 (M 0 25)) 0 27 0) 0 28 0) 0 25).toNatClampNeg) 97 122 (h_up (h_up (h_up M 0 26 (M 0 25)) 0 27 0) 0 28 0)) = 0 then (if (fX10_in ((h_up (h_up (h_up M 0 26 (M 0 25)) 0 27 0) 0 28 0) 9 ((h_up (h_up (h_up M 0 26 (M 0 25)) 0 27 0) 0 28 0) 0 25).toNatClampNeg) 48 57 (h_up (h_up (h_up M 0 26 (M 0 25)) 0 27 0) 0 28 0)) = 0 then (if ((h_up (h_up (h_up M 0 26 (M 0 25)) 0 27 0) 0 28 0) 9 ((h_up (h_up (h_up M 0 26 (M 0 25)) 0 27 0) 0 28 0) 0 25).toNatClampNeg) = 40 then (fX10_next_L374 ((h_up (h_up (h_up M 0 26 (M 0 25)) 0 27 0) 0 28 0) 9 ((h_up (h_up (h_up M 0 26 (M 0 25)) 0 27 0) 0 28 0) 0 25).toNatClampNeg) (h_up (h_up (h_up M 0 26 (M 0 25)) 0 27 0) 0 28 0)) else (if ((h_up (h_up (h_up M 0 26 (M 0 25)) 0 27 0) 0 28 0) 9 ((h_up (h_up (h_up M 0 26 (M 0 25)) 0 27 0) 0 28 0) 0 25).toNatClampNeg) = 41 then (fX10_next_L374 ((h_up (h_up (h_up M 0 26 (M 0 25)) 0 27 0) 0 28 0) 9 ((h_up (h_up (h_up M 0 26 (M 0 25)) 0 27 0) 0 28 0) 0 25).toNatClampNeg) (h_up (h_up (h_up M 0 26 (M 0 25)) 0 27 0) 0 28 0)) else (if ((h_up (h_up (h_up M 0 26 (M 0 25)) 0 27 0) 0 28 0) 9 ((h_up (h_up (h_up M 0 26 (M 0 25)) 0 27 0) 0 28 0) 0 25).toNatClampNeg) = 59 then (fX10_next_L374 ((h_up (h_up (h_up M 0 26 (M 0 25)) 0 27 0) 0 28 0) 9 ((h_up (h_up (h_up M 0 26 (M 0 25)) 0 27 0) 0 28 0) 0 25).toNatClampNeg) (h_up (h_up (h_up M 0 26 (M 0 25)) 0 27 0) 0 28 0)) else (if ((h_up (h_up (h_up M 0 26 (M 0 25)) 0 27 0) 0 28 0) 9 ((h_up (h_up (h_up M 0 26 (M 0 25)) 0 27 0) 0 28 0) 0 25).toNatClampNeg) = 43 then (fX10_next_L374 ((h_up (h_up (h_up M 0 26 (M 0 25)) 0 27 0) 0 28 0) 9 ((h_up (h_up (h_up M 0 26 (M 0 25)) 0 27 0) 0 28 0) 0 25).toNatClampNeg) (h_up (h_up (h_up M 0 26 (M 0 25)) 0 27 0) 0 28 0)) else (if ((h_up (h_up (h_up M 0 26 (M 0 25)) 0 27 0) 0 28 0) 9 ((h_up (h_up (h_up M 0 26 (M 0 25)) 0 27 0) 0 28 0) 0 25).toNatClampNeg) = 45 then (fX10_next_L374 ((h_up (h_up (h_up M 0 26 (M 0 25)) 0 27 0) 0 28 0) 9 ((h_up (h_up (h_up M 0 26 (M 0 25)) 0 27 0) 0 28 0) 0 25).toNatClampNeg) (h_up (h_up (h_up M 0 26 (M 0 25)) 0 27 0) 0 28 0)) else (if ((h_up (h_up (h_up M 0 26 (M 0 25)) 0 27 0) 0 28 0) 9 ((h_up (h_up (h_up M 0 26 (M 0 25)) 0 27 0) 0 28 0) 0 25).toNatClampNeg) = 42 then (fX10_next_L374 ((h_up (h_up (h_up M 0 26 (M 0 25)) 0 27 0) 0 28 0) 9 ((h_up (h_up (h_up M 0 26 (M 0 25)) 0 27 0) 0 28 0) 0 25).toNatClampNeg) (h_up (h_up (h_up M 0 26 (M 0 25)) 0 27 0) 0 28 0)) else (if ((h_up (h_up (h_up M 0 26 (M 0 25)) 0 27 0) 0 28 0) 9 ((h_up (h_up (h_up M 0 26 (M 0 25)) 0 27 0) 0 28 0) 0 25).toNatClampNeg) = 60 then (fX10_next_L374 ((h_up (h_up (h_up M 0 26 (M 0 25)) 0 27 0) 0 28 0) 9 ((h_up (h_up (h_up M 0 26 (M 0 25)) 0 27 0) 0 28 0) 0 25).toNatClampNeg) (h_up (h_up (h_up M 0 26 (M 0 25)) 0 27 0) 0 28 0)) else (if ((h_up (h_up (h_up M 0 26 (M 0 25)) 0 27 0) 0 28 0) 9 ((h_up (h_up (h_up M 0 26 (M 0 25)) 0 27 0) 0 28 0) 0 25).toNatClampNeg) = 61 then (fX10_next_L374 ((h_up (h_up (h_up M 0 26 (M 0 25)) 0 27 0) 0 28 0) 9 ((h_up (h_up (h_up M 0 26 (M 0 25)) 0 27 0) 0 28 0) 0 25).toNatClampNeg) (h_up (h_up (h_up M 0 26 (M 0 25)) 0 27 0) 0 28 0)) else (fX10_next_L379 ((h_up (h_up (h_up M 0 26 (M 0 25)) 0 27 0) 0 28 0) 9 ((h_up (h_up (h_up M 0 26 (M 0 25)) 0 27 0) 0 28 0) 0 25).toNatClampNeg) 0 (h_up (h_up (h_up M 0 26 (M 0 25)) 0 27 0) 0 28 0)))))))))) else (h_lp (fX10_next_L230) h_FU (0, h_up (h_up (h_up M 0 26 (M 0 25)) 0 27 0) 0 28 0))) else (h_lp (fX10_next_L103) h_FU (h_up (h_up (h_up M 0 26 (M 0 25)) 0 27 0) 0 28 0))) else none)
def fX10_next_L0    (k0 : hMem → Option hMem) (s : hMem) : Option hMem := if (s 0 11) ≤ (s 0 25) then (fX10_next_L52 s) else (if h_ib (s 0 25) 160 then (if (s 9 (s 0 25).toNatClampNeg) = 32 then (fX10_next_L39 k0 s) else (if h_ib (s 0 25) 160 then (if (s 9 (s 0 25).toNatClampNeg) = 10 then (fX10_next_L39 k0 s) else (fX10_next_L52 s)) else none)) else none)
def fX10_next  (M : hMem) : Option hMem := h_lp (fX10_next_L0) h_FU M
def fX10_opensOne (a1 : Int32) (M : hMem) : Option (Int32 × hMem) := if (M 0 32) = 5 then (some (0, M)) else ((fX10_holds a1 (h_up M 0 32 ((M 0 32) + 1))).bind fun q22 => some (1, q22))
def fX10_signOf  (M : hMem) : Int32 := if (M 0 27) = 4 then 11 else (if (M 0 27) = 5 then 12 else (if (M 0 27) = 60 then 14 else (if (M 0 27) = 61 then 15 else (if (M 0 27) = 43 then 16 else (if (M 0 27) = 45 then 17 else (if (M 0 27) = 42 then 18 else (-1)))))))
def fX10_eRead_L99 (k14 : (Int32 × Int32 × hMem) → Option (Int32 × hMem)) (v1 : Int32) (M : hMem) : Option (Int32 × hMem) := if (M 0 27) = 45 then ((fX10_opensOne 19 M).bind fun q111 => if q111.1 = 0 then (some (0, q111.2)) else (k14 (v1, 0, q111.2))) else (if (M 0 27) = 40 then ((fX10_opensOne 0 M).bind fun q135 => if q135.1 = 0 then (some (0, q135.2)) else (k14 (v1, 1, q135.2))) else (some (0, M)))
def fX10_eRead_L61 (k14 : (Int32 × Int32 × hMem) → Option (Int32 × hMem)) (v2 : Int32) (t1 : Int32) (M : hMem) : Option (Int32 × hMem) := (fX10_puts t1 M).bind fun q61 => (fX10_unwinds 7 q61).bind fun q67 => k14 (0, v2, q67)
def fX10_eRead_L38 (k14 : (Int32 × Int32 × hMem) → Option (Int32 × hMem)) (v2 : Int32) (M : hMem) : Option (Int32 × hMem) := if (M 0 27) = 1 then (fX10_eRead_L61 k14 v2 (100000 + (M 0 28)) M) else (fX10_eRead_L61 k14 v2 (M 0 28) M)
def fX10_eRead_L14    (k14 : (Int32 × Int32 × hMem) → Option (Int32 × hMem)) (s : Int32 × Int32 × hMem) : Option (Int32 × hMem) := (fX10_next s.2.2).bind fun q15 => if s.1 = 0 then (if (q15 0 27) = 59 then ((fX10_unwinds 1 q15).bind fun q161 => if (q161 0 31) = 0 then (some (1, q161)) else (some (0, q161))) else (if (q15 0 27) = 41 then ((fX10_unwinds 1 q15).bind fun q188 => if (q188 0 31) = 0 then (some (0, q188)) else ((fX10_unwinds 7 (h_up (h_up q188 0 31 ((q188 0 31) - 1)) 0 32 (((h_up q188 0 31 ((q188 0 31) - 1)) 0 32) - 1))).bind fun q223 => k14 (s.1, s.2.1, q223))) else (if (fX10_signOf q15) = (-1) then (some (0, q15)) else ((fX10_between (fX10_signOf q15) q15).bind fun q241 => if q241.1 = 0 then (some (0, q241.2)) else (if 12 < (fX10_signOf q15) then (k14 (1, 0, q241.2)) else (k14 (1, 1, q241.2))))))) else (if (q15 0 27) = 1 then (fX10_eRead_L38 k14 s.2.1 q15) else (if (q15 0 27) = 2 then (fX10_eRead_L38 k14 s.2.1 q15) else (if (q15 0 27) = 6 then (if s.2.1 = 0 then (fX10_eRead_L99 k14 s.1 q15) else ((fX10_opensOne 13 q15).bind fun q91 => if q91.1 = 0 then (some (0, q91.2)) else (k14 (s.1, s.2.1, q91.2)))) else (fX10_eRead_L99 k14 s.1 q15))))
def fX10_eRead  (M : hMem) : Option (Int32 × hMem) := h_lp (fX10_eRead_L14) h_FU (1, 1, h_up (h_up M 0 31 0) 0 32 0)
def fX10_text_L60 (k26 : (Int32 × Int32 × hMem) → Option (Int32 × hMem)) (v2 : Int32) (t0 : Int32) (M : hMem) : Option (Int32 × hMem) := if h_ib ((4 * (M 0 14)) + v2) 24 then (if t0 = 0 then (k26 (0, v2 + 1, h_up M 11 ((4 * (M 0 14)) + v2).toNatClampNeg (M 0 33))) else ((fX10_eRead (h_up M 11 ((4 * (M 0 14)) + v2).toNatClampNeg (M 0 33))).bind fun q83 => if q83.1 = 0 then (k26 (0, v2 + 1, q83.2)) else (k26 (1, v2 + 1, q83.2)))) else none
def fX10_text_L122  (v1 : Int32) (M : hMem) : Option (Int32 × hMem) := if h_ib ((4 * (M 0 14)) + 3) 24 then (if v1 = 0 then (some ((-100) - ((h_up (h_up M 11 ((4 * (M 0 14)) + 3).toNatClampNeg (M 0 33)) 0 11 0) 0 26), h_up (h_up M 11 ((4 * (M 0 14)) + 3).toNatClampNeg (M 0 33)) 0 11 0)) else (some (((h_up (h_up (h_up M 11 ((4 * (M 0 14)) + 3).toNatClampNeg (M 0 33)) 0 11 0) 0 14 (((h_up (h_up M 11 ((4 * (M 0 14)) + 3).toNatClampNeg (M 0 33)) 0 11 0) 0 14) + 1)) 0 14) - 1, h_up (h_up (h_up M 11 ((4 * (M 0 14)) + 3).toNatClampNeg (M 0 33)) 0 11 0) 0 14 (((h_up (h_up M 11 ((4 * (M 0 14)) + 3).toNatClampNeg (M 0 33)) 0 11 0) 0 14) + 1)))) else none
def fX10_text_L59 (k26 : (Int32 × Int32 × hMem) → Option (Int32 × hMem)) (v2 : Int32) (M : hMem) : Option (Int32 × hMem) := fX10_text_L60 k26 v2 0 M
def fX10_text_L121  (t0 : Int32) (M : hMem) : Option (Int32 × hMem) := fX10_text_L122 t0 M
def fX10_text_L101  (v1 : Int32) (M : hMem) : Option (Int32 × hMem) := if v1 = 0 then (fX10_text_L122 v1 M) else ((fX10_next M).bind fun q106 => if (q106 0 27) = 0 then (fX10_text_L121 1 q106) else (fX10_text_L121 0 q106))
def fX10_text_L26    (k26 : (Int32 × Int32 × hMem) → Option (Int32 × hMem)) (s : Int32 × Int32 × hMem) : Option (Int32 × hMem) := if 3 ≤ s.2.1 then (fX10_text_L101 s.1 s.2.2) else (if s.1 = 0 then (fX10_text_L101 s.1 s.2.2) else ((fX10_next s.2.2).bind fun q36 => if (q36 0 27) = 3 then (if (q36 0 28) = s.2.1 then (fX10_text_L60 k26 s.2.1 1 q36) else (fX10_text_L59 k26 s.2.1 q36)) else (fX10_text_L59 k26 s.2.1 q36)))
def fX10_text  (M : hMem) : Option (Int32 × hMem) := if (M 0 14) = 6 then (some ((-4), M)) else (h_lp (fX10_text_L26) h_FU (1, 0, h_up (h_up M 0 25 0) 0 33 0))
def fX10_has (a1 : Int32) (a2 : Int32) (M : hMem) : Option Int32 := if h_ib a1 3 then (if (((M 1 a1.toNatClampNeg) >>> (a2 &&& 31)) &&& 1) = 1 then (some 1) else (some 0)) else none
def fX10_isAnyIn_L25 (k2 : Int32 → Option Int32) (v1 : Int32) (v2 : Int32) (M : hMem) : Option Int32 := if (M 0 8) ≤ v2 then (k2 (v2 + 1)) else (if h_ib (3 * v2) 12 then (if (M 8 (3 * v2).toNatClampNeg) = v1 then (some 1) else (k2 (v2 + 1))) else none)
def fX10_isAnyIn_L2  (v1 : Int32) (M : hMem) (k2 : Int32 → Option Int32) (s : Int32) : Option Int32 := if 4 ≤ s then (some 0) else (if (M 0 3) ≤ s then (fX10_isAnyIn_L25 k2 v1 s M) else (if h_ib s 4 then (if (M 6 s.toNatClampNeg) = v1 then (some 1) else (fX10_isAnyIn_L25 k2 v1 s M)) else none))
def fX10_isAnyIn (a1 : Int32) (M : hMem) : Option Int32 := h_lp (fX10_isAnyIn_L2 a1 M) h_FU 0
def fX10_isSquare (a0 : Int32) (M : hMem) : Int32 := fX10_in a0 0 31 M
def fX10_street_L64  (v1 : Int32) (v2 : Int32) (v3 : Int32) (t0 : Int32) (M : hMem) : Option (Int32 × hMem) := if v3 = 1 then (if h_ib v1 3 then (if h_ib v1 3 then (some (t0, h_up M 1 v1.toNatClampNeg ((M 1 v1.toNatClampNeg) ||| (1 <<< (v2 &&& 31))))) else none) else none) else (if h_ib v1 3 then (if h_ib v1 3 then (some (t0, h_up M 1 v1.toNatClampNeg ((M 1 v1.toNatClampNeg) &&& ((1 <<< (v2 &&& 31)) ^^^ (-1))))) else none) else none)
def fX10_street_L50  (v1 : Int32) (v2 : Int32) (v3 : Int32) (M : hMem) : Option (Int32 × hMem) := (fX10_has v1 v2 M).bind fun q53 => if q53 = 0 then (fX10_street_L64 v1 v2 v3 0 M) else (fX10_street_L64 v1 v2 v3 1 M)
def fX10_street (a1 : Int32) (a2 : Int32) (a3 : Int32) (M : hMem) : Option (Int32 × hMem) := if (fX10_in a1 0 2 M) = 0 then (some ((-1), M)) else (if (fX10_isSquare a2 M) = 0 then (some ((-2), M)) else (if (fX10_in a3 0 1 M) = 0 then (some ((-2), M)) else (if a1 = 0 then (if a3 = 1 then ((fX10_isAnyIn a2 M).bind fun q41 => if q41 = 0 then (fX10_street_L50 a1 a2 a3 M) else (some ((-3), M))) else (fX10_street_L50 a1 a2 a3 M)) else (fX10_street_L50 a1 a2 a3 M))))
def fX10_blow (a1 : Int32) (a2 : Int32) (a3 : Int32) (M : hMem) : Option (Int32 × hMem) := if (fX10_in a1 0 23 M) = 0 then (some ((-5), M)) else (if (fX10_in a2 0 4 M) = 0 then (some ((-7), M)) else (if (fX10_in a3 0 9 M) = 0 then (some ((-7), M)) else (if h_ib a1 24 then (if h_ib a1 24 then (if h_ib a1 24 then (if h_ib a1 24 then (some ((10 * (M 2 a1.toNatClampNeg)) + (M 3 a1.toNatClampNeg), h_up (h_up M 2 a1.toNatClampNeg a2) 3 a1.toNatClampNeg a3)) else none) else none) else none) else none)))
def fX10_wind (a1 : Int32) (M : hMem) : Option Int32 := if (fX10_in a1 0 23 M) = 0 then (some (-5)) else (if h_ib a1 24 then (if h_ib a1 24 then (some ((10 * (M 2 a1.toNatClampNeg)) + (M 3 a1.toNatClampNeg))) else none) else none)
def fX10_count (a1 : Int32) (M : hMem) : Option Int32 := if a1 = 0 then (some (M 0 3)) else (if a1 = 1 then (some (M 0 8)) else (if a1 = 2 then (if h_ib (a1 - 2) 3 then (some (M 1 (a1 - 2).toNatClampNeg)) else none) else (if a1 = 3 then (if h_ib (a1 - 2) 3 then (some (M 1 (a1 - 2).toNatClampNeg)) else none) else (if a1 = 4 then (if h_ib (a1 - 2) 3 then (some (M 1 (a1 - 2).toNatClampNeg)) else none) else (if a1 = 5 then (some (M 0 14)) else (if a1 = 6 then (some (M 0 15)) else (if a1 = 7 then (some (M 0 11)) else (some (-2)))))))))
def fX10_isByte (a0 : Int32) (M : hMem) : Int32 := fX10_in a0 0 255 M
def fX10_feed_L125 (k68 : (Int32 × hMem) → Option (Int32 × hMem)) (v1 : Int32) (v2 : Int32) (v3 : Int32) (v4 : Int32) (v5 : Int32) (v6 : Int32) (v7 : Int32) (t2 : Int32) (t1 : Int32) (M : hMem) : Option (Int32 × hMem) := if h_ib t1 160 then (k68 (v7 + 1, h_up (h_up M 9 t1.toNatClampNeg t2) 0 11 (((h_up M 9 t1.toNatClampNeg t2) 0 11) + 1))) else none
def fX10_feed_L68  (v1 : Int32) (v2 : Int32) (v3 : Int32) (v4 : Int32) (v5 : Int32) (v6 : Int32)  (k68 : (Int32 × hMem) → Option (Int32 × hMem)) (s : Int32 × hMem) : Option (Int32 × hMem) := if v1 ≤ s.1 then (some (s.2 0 11, s.2)) else (if s.1 = 0 then (fX10_feed_L125 k68 v1 v2 v3 v4 v5 v6 s.1 v2 (s.2 0 11) s.2) else (if s.1 = 1 then (fX10_feed_L125 k68 v1 v2 v3 v4 v5 v6 s.1 v3 (s.2 0 11) s.2) else (if s.1 = 2 then (fX10_feed_L125 k68 v1 v2 v3 v4 v5 v6 s.1 v4 (s.2 0 11) s.2) else (if s.1 = 3 then (fX10_feed_L125 k68 v1 v2 v3 v4 v5 v6 s.1 v5 (s.2 0 11) s.2) else (fX10_feed_L125 k68 v1 v2 v3 v4 v5 v6 s.1 v6 (s.2 0 11) s.2)))))
def fX10_feed (a1 : Int32) (a2 : Int32) (a3 : Int32) (a4 : Int32) (a5 : Int32) (a6 : Int32) (M : hMem) : Option (Int32 × hMem) := if (fX10_in a1 1 5 M) = 0 then (some ((-2), M)) else (if (fX10_isByte a2 M) = 0 then (some ((-2), M)) else (if (fX10_isByte a3 M) = 0 then (some ((-2), M)) else (if (fX10_isByte a4 M) = 0 then (some ((-2), M)) else (if (fX10_isByte a5 M) = 0 then (some ((-2), M)) else (if (fX10_isByte a6 M) = 0 then (some ((-2), M)) else (if ((M 0 11) + a1) ≤ 160 then (h_lp (fX10_feed_L68 a1 a2 a3 a4 a5 a6) h_FU (0, M)) else (some ((-4), M))))))))
def fX10_force (a1 : Int32) (M : hMem) : Option (Int32 × hMem) := if (fX10_in a1 0 ((M 0 14) - 1) M) = 0 then (some ((-2), M)) else (some (M 0 15, h_up M 0 15 a1))
def fX10_areSeconds (a0 : Int32) (M : hMem) : Int32 := fX10_in a0 0 24 M
def fX10_two (a0 : Int32) (a1 : Int32) (a2 : Int32) (M : hMem) : Int32 := if a0 = 11 then (if a1 = 0 then (if a2 = 0 then 0 else 1) else 1) else (if a0 = 12 then (if a1 = 0 then 0 else (if a2 = 0 then 0 else 1)) else (if a0 = 13 then (a1 * a2) else (if a0 = 14 then (if a2 ≤ a1 then 0 else 1) else (if a0 = 15 then (if a1 = a2 then 1 else 0) else (if a0 = 16 then (a1 + a2) else (if a0 = 17 then (a1 - a2) else (a1 * a2)))))))
def fX10_says_L66 (k16 : (Int32 × Int32 × hMem) → Option (Int32 × hMem)) (v1 : Int32) (v2 : Int32) (v3 : Int32) (v4 : Int32) (M : hMem) : Option (Int32 × hMem) := if 11 ≤ v4 then (if h_ib v2 200 then (k16 (v2 + 1, v3 + 1, h_up M 19 v2.toNatClampNeg (v4 - 100000))) else none) else (if h_ib v4 6 then (if h_ib v2 200 then (k16 (v2 + 1, v3 + 1, h_up M 19 v2.toNatClampNeg (M 20 v4.toNatClampNeg))) else none) else none)
def fX10_says_L16  (v1 : Int32)  (k16 : (Int32 × Int32 × hMem) → Option (Int32 × hMem)) (s : Int32 × Int32 × hMem) : Option (Int32 × hMem) := if h_ib (((4 * (s.2.2 0 15)) + v1) + 1) 24 then (if (s.2.2 11 (((4 * (s.2.2 0 15)) + v1) + 1).toNatClampNeg) ≤ s.2.1 then (some (s.2.2 19 0, s.2.2)) else (if h_ib ((200 * (s.2.2 0 15)) + s.2.1) 1200 then (if 100000 ≤ (s.2.2 10 ((200 * (s.2.2 0 15)) + s.2.1).toNatClampNeg) then (fX10_says_L66 k16 v1 s.1 s.2.1 (s.2.2 10 ((200 * (s.2.2 0 15)) + s.2.1).toNatClampNeg) s.2.2) else (if 11 ≤ (s.2.2 10 ((200 * (s.2.2 0 15)) + s.2.1).toNatClampNeg) then (if (s.2.2 10 ((200 * (s.2.2 0 15)) + s.2.1).toNatClampNeg) = 13 then (if h_ib (s.1 - 1) 200 then (if (s.2.2 19 (s.1 - 1).toNatClampNeg) = 0 then (if h_ib (s.1 - 1) 200 then (k16 (s.1, s.2.1 + 1, h_up s.2.2 19 (s.1 - 1).toNatClampNeg 1)) else none) else (if h_ib (s.1 - 1) 200 then (k16 (s.1, s.2.1 + 1, h_up s.2.2 19 (s.1 - 1).toNatClampNeg 0)) else none)) else none) else (if (s.2.2 10 ((200 * (s.2.2 0 15)) + s.2.1).toNatClampNeg) = 19 then (if h_ib (s.1 - 1) 200 then (if h_ib (s.1 - 1) 200 then (k16 (s.1, s.2.1 + 1, h_up s.2.2 19 (s.1 - 1).toNatClampNeg (-(s.2.2 19 (s.1 - 1).toNatClampNeg)))) else none) else none) else (if h_ib ((s.1 + (-1)) - 1) 200 then (if h_ib (s.1 + (-1)) 200 then (if h_ib ((s.1 + (-1)) - 1) 200 then (k16 (s.1 + (-1), s.2.1 + 1, h_up s.2.2 19 ((s.1 + (-1)) - 1).toNatClampNeg (fX10_two (s.2.2 10 ((200 * (s.2.2 0 15)) + s.2.1).toNatClampNeg) (s.2.2 19 ((s.1 + (-1)) - 1).toNatClampNeg) (s.2.2 19 (s.1 + (-1)).toNatClampNeg) s.2.2))) else none) else none) else none))) else (fX10_says_L66 k16 v1 s.1 s.2.1 (s.2.2 10 ((200 * (s.2.2 0 15)) + s.2.1).toNatClampNeg) s.2.2))) else none)) else none
def fX10_says (a1 : Int32) (M : hMem) : Option (Int32 × hMem) := if h_ib ((4 * (M 0 15)) + a1) 24 then (h_lp (fX10_says_L16 a1) h_FU (0, M 11 ((4 * (M 0 15)) + a1).toNatClampNeg, M)) else none
def fX10_within (a0 : Int32) (a1 : Int32) (a2 : Int32) (M : hMem) : Int32 := if a1 ≤ a0 then (if a0 ≤ a2 then a0 else a2) else a1
def fX10_asksOf (a1 : Int32) (a2 : Int32) (a3 : Int32) (a4 : Int32) (a5 : Int32) (a6 : Int32) (a7 : Int32) (M : hMem) : Option (Int32 × hMem) := (fX10_says a1 (h_up (h_up (h_up (h_up (h_up (h_up M 20 0 a2) 20 1 a3) 20 2 a4) 20 3 a5) 20 4 a6) 20 5 a7)).bind fun q48 => if a1 = 0 then (some (fX10_within q48.1 0 9 q48.2, q48.2)) else (if a1 = 2 then (some (fX10_within q48.1 (-99) 99 q48.2, q48.2)) else (some (h_rem ((h_rem q48.1 3) + 3) 3, q48.2)))
def fX10_asks_L67  (v1 : Int32) (v2 : Int32) (v3 : Int32) (v4 : Int32) (v5 : Int32) (t0 : Int32) (M : hMem) : Option (Int32 × hMem) := if t0 = 0 then (some ((-1000), M)) else ((fX10_asksOf v1 (v2 / 10) (h_rem v2 10) (v3 / 10) v4 v5 (h_rem v3 10) M).bind fun q96 => some (q96.1, q96.2))
def fX10_asks_L66  (v1 : Int32) (v2 : Int32) (v3 : Int32) (v4 : Int32) (v5 : Int32) (M : hMem) : Option (Int32 × hMem) := fX10_asks_L67 v1 v2 v3 v4 v5 0 M
def fX10_asks (a1 : Int32) (a2 : Int32) (a3 : Int32) (a4 : Int32) (a5 : Int32) (M : hMem) : Option (Int32 × hMem) := if (fX10_in a1 0 2 M) = 0 then (fX10_asks_L66 a1 a2 a3 a4 a5 M) else (if (fX10_in a2 0 92 M) = 0 then (fX10_asks_L66 a1 a2 a3 a4 a5 M) else (if 3 ≤ (h_rem a2 10) then (fX10_asks_L66 a1 a2 a3 a4 a5 M) else (if (fX10_in a3 0 95 M) = 0 then (fX10_asks_L66 a1 a2 a3 a4 a5 M) else (if 6 ≤ (h_rem a3 10) then (fX10_asks_L66 a1 a2 a3 a4 a5 M) else (if (fX10_areSeconds a4 M) = 0 then (fX10_asks_L66 a1 a2 a3 a4 a5 M) else (if (fX10_isSquare a5 M) = 0 then (fX10_asks_L66 a1 a2 a3 a4 a5 M) else (fX10_asks_L67 a1 a2 a3 a4 a5 1 M)))))))
def fX10_isFree (a1 : Int32) (M : hMem) : Option Int32 := if (fX10_isSquare a1 M) = 0 then (some 0) else ((fX10_has 0 a1 M).bind fun q10 => if q10 = 0 then (some 1) else (some 0))
def fX10_hat_L77  (v3 : Int32) (M : hMem) : Option (Int32 × hMem) := if h_ib (M 0 3) 4 then (some (((h_up (h_up M 7 (M 0 3).toNatClampNeg v3) 0 3 (((h_up M 7 (M 0 3).toNatClampNeg v3) 0 3) + 1)) 0 3) - 1, h_up (h_up M 7 (M 0 3).toNatClampNeg v3) 0 3 (((h_up M 7 (M 0 3).toNatClampNeg v3) 0 3) + 1))) else none
def fX10_hat (a1 : Int32) (a2 : Int32) (a3 : Int32) (M : hMem) : Option (Int32 × hMem) := if (fX10_in a1 0 59 M) = 0 then (some ((-2), M)) else ((fX10_isFree a2 M).bind fun q12 => if q12 = 0 then (some ((-2), M)) else (if (fX10_in a3 0 2 M) = 0 then (some ((-2), M)) else (if (M 0 3) = 4 then (some ((-4), M)) else (if h_ib (M 0 3) 4 then (if h_ib ((h_up M 4 (M 0 3).toNatClampNeg (a1 / 10)) 0 3) 4 then (if h_ib ((h_up (h_up M 4 (M 0 3).toNatClampNeg (a1 / 10)) 5 ((h_up M 4 (M 0 3).toNatClampNeg (a1 / 10)) 0 3).toNatClampNeg (h_rem a1 10)) 0 3) 4 then (fX10_hat_L77 a3 (h_up (h_up (h_up M 4 (M 0 3).toNatClampNeg (a1 / 10)) 5 ((h_up M 4 (M 0 3).toNatClampNeg (a1 / 10)) 0 3).toNatClampNeg (h_rem a1 10)) 6 ((h_up (h_up M 4 (M 0 3).toNatClampNeg (a1 / 10)) 5 ((h_up M 4 (M 0 3).toNatClampNeg (a1 / 10)) 0 3).toNatClampNeg (h_rem a1 10)) 0 3).toNatClampNeg a2)) else none) else none) else none))))
def fX10_isHat (a1 : Int32) (M : hMem) : Int32 := fX10_in a1 0 ((M 0 3) - 1) M
def fX10_set_L87  (v1 : Int32) (v2 : Int32) (v3 : Int32) (v4 : Int32) (t2 : Int32) (t1 : Int32) (M : hMem) : Option (Int32 × hMem) := if h_ib t1 4 then (if v2 = 1 then (if h_ib v1 4 then (some (v4, h_up (h_up M 6 t1.toNatClampNeg t2) 7 v1.toNatClampNeg v3)) else none) else (if h_ib v1 4 then (if h_ib v1 4 then (some (v4, h_up (h_up M 6 t1.toNatClampNeg t2) 7 v1.toNatClampNeg ((h_up M 6 t1.toNatClampNeg t2) 7 v1.toNatClampNeg))) else none) else none)) else none
def fX10_set_L66  (v1 : Int32) (v2 : Int32) (v3 : Int32) (t0 : Int32) (M : hMem) : Option (Int32 × hMem) := if v2 = 0 then (fX10_set_L87 v1 v2 v3 t0 v3 v1 M) else (if h_ib v1 4 then (fX10_set_L87 v1 v2 v3 t0 (M 6 v1.toNatClampNeg) v1 M) else none)
def fX10_set_L47  (v1 : Int32) (v2 : Int32) (v3 : Int32) (M : hMem) : Option (Int32 × hMem) := if v2 = 0 then (if h_ib v1 4 then (fX10_set_L66 v1 v2 v3 (M 6 v1.toNatClampNeg) M) else none) else (if h_ib v1 4 then (fX10_set_L66 v1 v2 v3 (M 7 v1.toNatClampNeg) M) else none)
def fX10_set (a1 : Int32) (a2 : Int32) (a3 : Int32) (M : hMem) : Option (Int32 × hMem) := if (fX10_isHat a1 M) = 0 then (some ((-5), M)) else (if (fX10_in a2 0 1 M) = 0 then (some ((-7), M)) else (if a2 = 0 then ((fX10_isFree a3 M).bind fun q26 => if q26 = 0 then (some ((-7), M)) else (fX10_set_L47 a1 a2 a3 M)) else (if (fX10_in a3 0 2 M) = 0 then (some ((-7), M)) else (fX10_set_L47 a1 a2 a3 M))))
def fX10_told (a1 : Int32) (a2 : Int32) (M : hMem) : Option Int32 := if (fX10_isHat a1 M) = 0 then (some (-5)) else (if a2 = 0 then (if h_ib a1 4 then (some (M 6 a1.toNatClampNeg)) else none) else (if a2 = 1 then (if h_ib a1 4 then (some (M 7 a1.toNatClampNeg)) else none) else (if a2 = 2 then (if h_ib a1 4 then (some (M 4 a1.toNatClampNeg)) else none) else (if a2 = 3 then (if h_ib a1 4 then (some (M 5 a1.toNatClampNeg)) else none) else (some (-7))))))
def fX10_come_L80   (M : hMem) : Option (Int32 × hMem) := some (((h_up M 0 8 ((M 0 8) + 1)) 0 8) - 1, h_up M 0 8 ((M 0 8) + 1))
def fX10_come (a1 : Int32) (a2 : Int32) (a3 : Int32) (M : hMem) : Option (Int32 × hMem) := (fX10_isFree a1 M).bind fun q2 => if q2 = 0 then (some ((-2), M)) else (if (fX10_in a2 0 4 M) = 0 then (some ((-2), M)) else (if (fX10_in a3 0 3 M) = 0 then (some ((-2), M)) else (if (M 0 8) = 4 then (some ((-4), M)) else (if h_ib (3 * (M 0 8)) 12 then (if h_ib ((3 * ((h_up M 8 (3 * (M 0 8)).toNatClampNeg a1) 0 8)) + 1) 12 then (if h_ib ((3 * ((h_up (h_up M 8 (3 * (M 0 8)).toNatClampNeg a1) 8 ((3 * ((h_up M 8 (3 * (M 0 8)).toNatClampNeg a1) 0 8)) + 1).toNatClampNeg a2) 0 8)) + 2) 12 then (fX10_come_L80 (h_up (h_up (h_up M 8 (3 * (M 0 8)).toNatClampNeg a1) 8 ((3 * ((h_up M 8 (3 * (M 0 8)).toNatClampNeg a1) 0 8)) + 1).toNatClampNeg a2) 8 ((3 * ((h_up (h_up M 8 (3 * (M 0 8)).toNatClampNeg a1) 8 ((3 * ((h_up M 8 (3 * (M 0 8)).toNatClampNeg a1) 0 8)) + 1).toNatClampNeg a2) 0 8)) + 2).toNatClampNeg a3)) else none) else none) else none))))
def fX10_isCatcher (a1 : Int32) (M : hMem) : Int32 := fX10_in a1 0 ((M 0 8) - 1) M
def fX10_does_L49  (v1 : Int32) (v2 : Int32) (v3 : Int32) (M : hMem) : Option (Int32 × hMem) := if h_ib ((3 * v1) + v2) 12 then (if h_ib ((3 * v1) + v2) 12 then (some (M 8 ((3 * v1) + v2).toNatClampNeg, h_up M 8 ((3 * v1) + v2).toNatClampNeg v3)) else none) else none
def fX10_does (a1 : Int32) (a2 : Int32) (a3 : Int32) (M : hMem) : Option (Int32 × hMem) := if (fX10_isCatcher a1 M) = 0 then (some ((-5), M)) else (if (fX10_in a2 0 2 M) = 0 then (some ((-7), M)) else (if a2 = 0 then ((fX10_isFree a3 M).bind fun q26 => if q26 = 0 then (some ((-7), M)) else (fX10_does_L49 a1 a2 a3 M)) else (if (fX10_in a3 0 (5 - a2) M) = 0 then (some ((-7), M)) else (fX10_does_L49 a1 a2 a3 M))))
def fX10_begins (a1 : Int32) (M : hMem) : Option hMem := if h_ib a1 4 then (if h_ib a1 4 then (some (h_up (h_up M 0 36 (M 6 a1.toNatClampNeg)) 0 37 ((h_up M 0 36 (M 6 a1.toNatClampNeg)) 7 a1.toNatClampNeg))) else none) else none
def fX10_next0_L47  (v2 : Int32) (t1 : Int32) (t0 : Int32) (M : hMem) : Int32 := if (fX10_in v2 0 3 M) = 0 then (-1) else (if (fX10_in (t0 + t1) 0 7 M) = 0 then (-1) else ((8 * v2) + (t0 + t1)))
def fX10_next0_L22  (v0 : Int32) (v1 : Int32) (t1 : Int32) (t0 : Int32) (M : hMem) : Int32 := if v1 = 1 then (fX10_next0_L47 (t0 + t1) 1 (h_rem v0 8) M) else (if v1 = 3 then (fX10_next0_L47 (t0 + t1) (-1) (h_rem v0 8) M) else (fX10_next0_L47 (t0 + t1) 0 (h_rem v0 8) M))
def fX10_next0 (a0 : Int32) (a1 : Int32) (M : hMem) : Int32 := if a1 = 0 then (fX10_next0_L22 a0 a1 (-1) (a0 / 8) M) else (if a1 = 2 then (fX10_next0_L22 a0 a1 1 (a0 / 8) M) else (fX10_next0_L22 a0 a1 0 (a0 / 8) M))
def fX10_beside (a1 : Int32) (a2 : Int32) (M : hMem) : Option Int32 := if (fX10_next0 a1 a2 M) = (-1) then (some (-1)) else ((fX10_has 0 (fX10_next0 a1 a2 M) M).bind fun q14 => if q14 = 0 then (some (fX10_next0 a1 a2 M)) else (some (-1)))
def fX10_goesBy_L61  (v2 : Int32) (v4 : Int32) (M : hMem) : Option Int32 := some (fX10_within ((v2 + 1) + (v4 / 4)) 0 12 M)
def fX10_goesBy_L56  (v2 : Int32) (v3 : Int32) (v4 : Int32) (v5 : Int32) (v6 : Int32) (M : hMem) : Option Int32 := if v3 = 3 then (fX10_goesBy_L61 v2 v4 M) else (if v3 = 2 then (some (fX10_within v6 0 12 M)) else (if v3 = 4 then (if v2 ≤ 1 then (some (fX10_within v6 0 12 M)) else (some (fX10_within (v2 + (v4 / 2)) 0 12 M))) else (if v3 = 5 then (some (fX10_within (v5 - v4) 0 12 M)) else (some (fX10_within v5 0 12 M)))))
def fX10_goesBy_L41  (v2 : Int32) (v3 : Int32) (v4 : Int32) (v5 : Int32) (t0 : Int32) (M : hMem) : Option Int32 := if v3 = 1 then (if (M 0 37) = 1 then (fX10_goesBy_L61 v2 v4 M) else (fX10_goesBy_L56 v2 v3 v4 v5 t0 M)) else (fX10_goesBy_L56 v2 v3 v4 v5 t0 M)
def fX10_goesBy_L29  (v2 : Int32) (v3 : Int32) (v4 : Int32) (t0 : Int32) (M : hMem) : Option Int32 := if 1 ≤ v2 then (fX10_goesBy_L41 v2 v3 v4 t0 1 M) else (fX10_goesBy_L41 v2 v3 v4 t0 v2 M)
def fX10_goesBy (a1 : Int32) (a2 : Int32) (M : hMem) : Option Int32 := if h_ib a1 4 then (if h_ib a1 4 then (if (M 0 37) = 0 then (fX10_goesBy_L29 a2 (M 4 a1.toNatClampNeg) (M 5 a1.toNatClampNeg) (a2 / 3) M) else (fX10_goesBy_L29 a2 (M 4 a1.toNatClampNeg) (M 5 a1.toNatClampNeg) a2 M)) else none) else none
def fX10_wayIn (a1 : Int32) (a2 : Int32) (M : hMem) : Option Int32 := (fX10_has 2 (M 0 36) M).bind fun q6 => if q6 = 0 then (some a2) else (if h_ib a1 4 then (if (M 4 a1.toNatClampNeg) = 5 then (some a2) else (if h_ib a1 4 then (if (M 4 a1.toNatClampNeg) = 3 then (if h_ib a1 4 then (some (h_rem ((a2 + 1) + (M 5 a1.toNatClampNeg)) 4)) else none) else (some (h_rem ((a2 + 1) + 0) 4))) else none)) else none)
def fX10_seconds_L239  (v6 : Int32) (t0 : Int32) (M : hMem) : Option hMem := if t0 = 0 then (some (h_up M 0 37 (h_rem ((M 0 37) + v6) 3))) else (some (h_up M 0 37 (M 0 37)))
def fX10_seconds_L234  (v6 : Int32) (M : hMem) : Option hMem := fX10_seconds_L239 v6 1 M
def fX10_seconds_L205  (v1 : Int32) (v4 : Int32) (v6 : Int32) (M : hMem) : Option hMem := if h_ib v1 4 then (if (M 4 v1.toNatClampNeg) = 2 then (fX10_seconds_L234 v6 M) else (if h_ib v1 4 then (if (M 4 v1.toNatClampNeg) = 4 then (fX10_seconds_L234 v6 M) else (if (M 0 36) = v4 then (fX10_seconds_L234 v6 M) else (fX10_seconds_L239 v6 0 M))) else none)) else none
def fX10_seconds_L149  (v1 : Int32) (v4 : Int32) (v5 : Int32) (v6 : Int32) (v7 : Int32)  (k149 : (Int32 × hMem) → Option hMem) (s : Int32 × hMem) : Option hMem := if v5 ≤ s.1 then (fX10_seconds_L205 v1 v4 v6 s.2) else ((fX10_has 1 (s.2 0 36) s.2).bind fun q162 => if q162 = 0 then ((fX10_beside (s.2 0 36) v7 s.2).bind fun q175 => if q175 = (-1) then (k149 (s.1 + 1, h_up s.2 0 36 (s.2 0 36))) else (k149 (s.1 + 1, h_up s.2 0 36 q175))) else (fX10_seconds_L205 v1 v4 v6 s.2))
def fX10_seconds_L26  (v1 : Int32) (v2 : Int32) (t0 : Int32) (M : hMem) : Option hMem := (fX10_has 1 (M 0 36) M).bind fun q33 => if q33 = 0 then (if h_ib v2 24 then (if (M 2 v2.toNatClampNeg) = 4 then (some M) else (if t0 = 0 then (if h_ib v2 24 then (if h_ib v1 4 then (if h_ib v1 4 then ((fX10_asksOf 0 (M 3 v2.toNatClampNeg) (M 0 37) (M 5 v1.toNatClampNeg) v2 (M 0 36) (M 4 v1.toNatClampNeg) M).bind fun q91 => (fX10_goesBy v1 q91.1 q91.2).bind fun q94 => if h_ib v2 24 then (if h_ib v1 4 then (if h_ib v1 4 then ((fX10_asksOf 1 (q91.2 3 v2.toNatClampNeg) (q91.2 0 37) (q91.2 5 v1.toNatClampNeg) v2 (q91.2 0 36) (q91.2 4 v1.toNatClampNeg) q91.2).bind fun q128 => if h_ib v2 24 then ((fX10_wayIn v1 (q128.2 2 v2.toNatClampNeg) q128.2).bind fun q141 => h_lp (fX10_seconds_L149 v1 (M 0 36) q94 q128.1 q141) h_FU (0, q128.2)) else none) else none) else none) else none) else none) else none) else none) else (some M))) else none) else (some M)
def fX10_seconds_L25  (v1 : Int32) (v2 : Int32) (M : hMem) : Option hMem := fX10_seconds_L26 v1 v2 0 M
def fX10_seconds (a1 : Int32) (a2 : Int32) (M : hMem) : Option hMem := if a2 < (M 0 38) then (fX10_seconds_L25 a1 a2 M) else (if ((M 0 38) + (M 0 39)) ≤ a2 then (fX10_seconds_L25 a1 a2 M) else (fX10_seconds_L26 a1 a2 1 M))
def fX10_goesOn_L2  (v1 : Int32) (v2 : Int32)  (k2 : (Int32 × hMem) → Option hMem) (s : Int32 × hMem) : Option hMem := if v2 ≤ s.1 then (some s.2) else ((fX10_seconds v1 s.1 s.2).bind fun q10 => k2 (s.1 + 1, q10))
def fX10_goesOn (a1 : Int32) (a2 : Int32) (M : hMem) : Option hMem := h_lp (fX10_goesOn_L2 a1 a2) h_FU (0, M)
def fX10_squareBehind (a1 : Int32) (a2 : Int32) (M : hMem) : Option (Int32 × hMem) := (fX10_begins a1 M).bind fun q2 => (fX10_goesOn a1 a2 q2).bind fun q8 => some (q8 0 36, q8)
def fX10_at (a1 : Int32) (a2 : Int32) (a3 : Int32) (M : hMem) : Option (Int32 × hMem) := if (fX10_isHat a1 M) = 0 then (some ((-5), M)) else (if (fX10_areSeconds a2 M) = 0 then (some ((-7), M)) else (if (fX10_in a3 0 1 M) = 0 then (some ((-7), M)) else ((fX10_squareBehind a1 a2 M).bind fun q33 => if a3 = 0 then (some (q33.1, q33.2)) else (some (q33.2 0 37, q33.2)))))
def fX10_passes_L2  (v1 : Int32)  (k2 : (Int32 × hMem) → Option hMem) (s : Int32 × hMem) : Option hMem := if (s.2 0 3) ≤ s.1 then (some s.2) else ((fX10_squareBehind s.1 v1 s.2).bind fun q18 => if h_ib s.1 4 then (if h_ib s.1 4 then (k2 (s.1 + 1, h_up (h_up q18.2 6 s.1.toNatClampNeg q18.1) 7 s.1.toNatClampNeg ((h_up q18.2 6 s.1.toNatClampNeg q18.1) 0 37))) else none) else none)
def fX10_passes (a1 : Int32) (M : hMem) : Option hMem := h_lp (fX10_passes_L2 a1) h_FU (0, M)
def fX10_pass_L19   (M : hMem) (k19 : (Int32 × Int32) → Option (Int32 × hMem)) (s : Int32 × Int32) : Option (Int32 × hMem) := if (M 0 3) ≤ s.2 then (some (s.1, M)) else (if h_ib s.2 4 then ((fX10_has 1 (M 6 s.2.toNatClampNeg) M).bind fun q36 => if q36 = 0 then (k19 (s.1 + 0, s.2 + 1)) else (k19 (s.1 + 1, s.2 + 1))) else none)
def fX10_pass (a1 : Int32) (M : hMem) : Option (Int32 × hMem) := if (fX10_areSeconds a1 M) = 0 then (some ((-2), M)) else ((fX10_passes a1 M).bind fun q12 => h_lp (fX10_pass_L19 q12) h_FU (0, 0))
def fX10_when_L28  (v1 : Int32) (v2 : Int32)  (k28 : (Int32 × hMem) → Option (Int32 × hMem)) (s : Int32 × hMem) : Option (Int32 × hMem) := if 24 < s.1 then (some ((-1), s.2)) else (if (s.2 0 36) = v2 then (some (s.1, s.2)) else (if 24 ≤ s.1 then (k28 (s.1 + 1, s.2)) else ((fX10_seconds v1 s.1 s.2).bind fun q53 => k28 (s.1 + 1, q53))))
def fX10_when (a1 : Int32) (a2 : Int32) (M : hMem) : Option (Int32 × hMem) := if (fX10_isHat a1 M) = 0 then (some ((-5), M)) else (if (fX10_isSquare a2 M) = 0 then (some ((-7), M)) else ((fX10_begins a1 M).bind fun q23 => h_lp (fX10_when_L28 a1 a2) h_FU (0, q23)))
def fX10_track_L32  (v1 : Int32) (v2 : Int32)  (k32 : (Int32 × Int32 × hMem) → Option (Int32 × hMem)) (s : Int32 × Int32 × hMem) : Option (Int32 × hMem) := if v2 ≤ s.2.1 then (some (s.1, s.2.2)) else ((fX10_seconds v1 s.2.1 s.2.2).bind fun q42 => k32 (s.1 ||| (1 <<< ((q42 0 36) &&& 31)), s.2.1 + 1, q42))
def fX10_track (a1 : Int32) (a2 : Int32) (M : hMem) : Option (Int32 × hMem) := if (fX10_isHat a1 M) = 0 then (some (0, M)) else (if (fX10_areSeconds a2 M) = 0 then (some (0, M)) else ((fX10_begins a1 M).bind fun q19 => h_lp (fX10_track_L32 a1 a2) h_FU (1 <<< ((q19 0 36) &&& 31), 0, q19)))
def fX10_over_L18  (v1 : Int32)  (k18 : (Int32 × hMem) → Option (Int32 × hMem)) (s : Int32 × hMem) : Option (Int32 × hMem) := if 24 ≤ s.1 then ((fX10_has 1 (s.2 0 36) s.2).bind fun q56 => if q56 = 0 then (some ((-1), s.2)) else (some (24, s.2))) else ((fX10_has 1 (s.2 0 36) s.2).bind fun q30 => if q30 = 0 then ((fX10_seconds v1 s.1 s.2).bind fun q41 => k18 (s.1 + 1, q41)) else (some (s.1, s.2)))
def fX10_over (a1 : Int32) (M : hMem) : Option (Int32 × hMem) := if (fX10_isHat a1 M) = 0 then (some ((-5), M)) else ((fX10_begins a1 M).bind fun q13 => h_lp (fX10_over_L18 a1) h_FU (0, q13))
def fX10_round_L51  (v1 : Int32) (v2 : Int32)  (k51 : (Int32 × hMem) → Option (Int32 × hMem)) (s : Int32 × hMem) : Option (Int32 × hMem) := if h_ib ((3 * (s.2 0 36)) + (s.2 0 37)) 96 then (if (s.2 21 ((3 * (s.2 0 36)) + (s.2 0 37)).toNatClampNeg) = (-1) then (if h_ib ((3 * (s.2 0 36)) + (s.2 0 37)) 96 then ((fX10_goesOn v1 24 (h_up s.2 21 ((3 * (s.2 0 36)) + (s.2 0 37)).toNatClampNeg s.1)).bind fun q92 => k51 (s.1 + 1, q92)) else none) else (if v2 = 0 then (some (s.1, s.2)) else (if h_ib ((3 * (s.2 0 36)) + (s.2 0 37)) 96 then (some (s.1 - (s.2 21 ((3 * (s.2 0 36)) + (s.2 0 37)).toNatClampNeg), s.2)) else none))) else none
def fX10_round_L25  (v1 : Int32) (v2 : Int32)  (k25 : (Int32 × hMem) → Option (Int32 × hMem)) (s : Int32 × hMem) : Option (Int32 × hMem) := if 96 ≤ s.1 then ((fX10_begins v1 s.2).bind fun q46 => h_lp (fX10_round_L51 v1 v2) h_FU (0, q46)) else (if h_ib s.1 96 then (k25 (s.1 + 1, h_up s.2 21 s.1.toNatClampNeg (-1))) else none)
def fX10_round (a1 : Int32) (a2 : Int32) (M : hMem) : Option (Int32 × hMem) := if (fX10_isHat a1 M) = 0 then (some ((-5), M)) else (if (fX10_in a2 0 1 M) = 0 then (some ((-7), M)) else (h_lp (fX10_round_L25 a1 a2) h_FU (0, M)))
def fX10_comesFromAll_L38 (k2 : (Int32 × hMem) → Option hMem) (v1 : Int32) (v2 : Int32) (v3 : Int32) (M : hMem) : Option hMem := (fX10_has 0 v3 M).bind fun q46 => if q46 = 0 then (if h_ib v3 32 then (k2 (v3 + 1, h_up M 22 v3.toNatClampNeg (M 0 36))) else none) else (if h_ib v3 32 then (k2 (v3 + 1, h_up M 22 v3.toNatClampNeg (-1))) else none)
def fX10_comesFromAll_L2  (v1 : Int32) (v2 : Int32)  (k2 : (Int32 × hMem) → Option hMem) (s : Int32 × hMem) : Option hMem := if 32 ≤ s.1 then (some s.2) else (if h_ib v1 4 then ((fX10_has 0 s.1 (h_up (h_up s.2 0 36 s.1) 0 37 ((h_up s.2 0 36 s.1) 7 v1.toNatClampNeg))).bind fun q26 => if q26 = 0 then ((fX10_goesOn v1 v2 (h_up (h_up s.2 0 36 s.1) 0 37 ((h_up s.2 0 36 s.1) 7 v1.toNatClampNeg))).bind fun q35 => fX10_comesFromAll_L38 k2 v1 v2 s.1 q35) else (fX10_comesFromAll_L38 k2 v1 v2 s.1 (h_up (h_up s.2 0 36 s.1) 0 37 ((h_up s.2 0 36 s.1) 7 v1.toNatClampNeg)))) else none)
def fX10_comesFromAll (a1 : Int32) (a2 : Int32) (M : hMem) : Option hMem := h_lp (fX10_comesFromAll_L2 a1 a2) h_FU (0, M)
def fX10_from_L36  (v3 : Int32) (M : hMem) (k36 : (Int32 × Int32) → Option (Int32 × hMem)) (s : Int32 × Int32) : Option (Int32 × hMem) := if 32 ≤ s.2 then (some (s.1, M)) else (if h_ib s.2 32 then (if (M 22 s.2.toNatClampNeg) = v3 then (k36 (s.1 ||| (1 <<< (s.2 &&& 31)), s.2 + 1)) else (k36 (s.1 ||| 0, s.2 + 1))) else none)
def fX10_from (a1 : Int32) (a2 : Int32) (a3 : Int32) (M : hMem) : Option (Int32 × hMem) := if (fX10_isHat a1 M) = 0 then (some (0, M)) else (if (fX10_areSeconds a2 M) = 0 then (some (0, M)) else (if (fX10_isSquare a3 M) = 0 then (some (0, M)) else ((fX10_comesFromAll a1 a2 M).bind fun q27 => h_lp (fX10_from_L36 a3 q27) h_FU (0, 0))))
def fX10_keeps_L107 (k45 : (Int32 × Int32 × Int32) → Option (Int32 × hMem)) (v3 : Int32) (v5 : Int32) (v6 : Int32) (v7 : Int32) (t0 : Int32) (M : hMem) : Option (Int32 × hMem) := if v7 ≤ v5 then (k45 (t0, v5, v6 + 1)) else (k45 (t0, v7, v6 + 1))
def fX10_keeps_L58 (k45 : (Int32 × Int32 × Int32) → Option (Int32 × hMem)) (v3 : Int32) (v4 : Int32) (v5 : Int32) (v6 : Int32) (M : hMem) (k58 : (Int32 × Int32) → Option (Int32 × hMem)) (s : Int32 × Int32) : Option (Int32 × hMem) := if 32 ≤ s.2 then (if s.1 ≤ v5 then (fX10_keeps_L107 k45 v3 v5 v6 s.1 v4 M) else (fX10_keeps_L107 k45 v3 v5 v6 s.1 v6 M)) else (if h_ib s.2 32 then (if (M 22 s.2.toNatClampNeg) = v6 then (k58 (s.1 + 1, s.2 + 1)) else (k58 (s.1 + 0, s.2 + 1))) else none)
def fX10_keeps_L45  (v3 : Int32) (M : hMem) (k45 : (Int32 × Int32 × Int32) → Option (Int32 × hMem)) (s : Int32 × Int32 × Int32) : Option (Int32 × hMem) := if 32 ≤ s.2.2 then (if v3 = 0 then (some (s.1, M)) else (some (s.2.1, M))) else (h_lp (fX10_keeps_L58 k45 v3 s.1 s.2.1 s.2.2 M) h_FU (0, 0))
def fX10_keeps (a1 : Int32) (a2 : Int32) (a3 : Int32) (M : hMem) : Option (Int32 × hMem) := if (fX10_isHat a1 M) = 0 then (some ((-5), M)) else (if (fX10_areSeconds a2 M) = 0 then (some ((-7), M)) else (if (fX10_in a3 0 1 M) = 0 then (some ((-7), M)) else ((fX10_comesFromAll a1 a2 M).bind fun q33 => h_lp (fX10_keeps_L45 a3 q33) h_FU ((-1), 0, 0))))
def fX10_areThere (a1 : Int32) (a2 : Int32) (M : hMem) : Int32 := if (fX10_isHat a1 M) = 0 then 0 else (if (fX10_isCatcher a2 M) = 0 then 0 else 1)
def fX10_spreads_L73 (k32 : (Int32 × hMem) → Option hMem) (k40 : (Int32 × hMem) → Option hMem) (v2 : Int32) (v3 : Int32) (t0 : Int32) (M : hMem) : Option hMem := if t0 = (-1) then (k40 (v3 + 1, M)) else (if h_ib t0 32 then (if (M 23 t0.toNatClampNeg) = (-1) then (if h_ib t0 32 then (k40 (v3 + 1, h_up M 23 t0.toNatClampNeg (v2 + 1))) else none) else (k40 (v3 + 1, M))) else none)
def fX10_spreads_L40 (k32 : (Int32 × hMem) → Option hMem) (v2 : Int32)  (k40 : (Int32 × hMem) → Option hMem) (s : Int32 × hMem) : Option hMem := if 128 ≤ s.1 then (k32 (v2 + 1, s.2)) else (if h_ib (s.1 / 4) 32 then (if (s.2 23 (s.1 / 4).toNatClampNeg) = v2 then ((fX10_beside (s.1 / 4) (h_rem s.1 4) s.2).bind fun q66 => fX10_spreads_L73 k32 k40 v2 s.1 q66 s.2) else (fX10_spreads_L73 k32 k40 v2 s.1 (-1) s.2)) else none)
def fX10_spreads_L32    (k32 : (Int32 × hMem) → Option hMem) (s : Int32 × hMem) : Option hMem := if 32 ≤ s.1 then (some s.2) else (h_lp (fX10_spreads_L40 k32 s.1) h_FU (0, s.2))
def fX10_spreads_L2  (v1 : Int32)  (k2 : (Int32 × hMem) → Option hMem) (s : Int32 × hMem) : Option hMem := if 32 ≤ s.1 then (h_lp (fX10_spreads_L32) h_FU (0, s.2)) else (if s.1 = v1 then (if h_ib s.1 32 then (k2 (s.1 + 1, h_up s.2 23 s.1.toNatClampNeg 0)) else none) else (if h_ib s.1 32 then (k2 (s.1 + 1, h_up s.2 23 s.1.toNatClampNeg (-1))) else none))
def fX10_spreads (a1 : Int32) (M : hMem) : Option hMem := h_lp (fX10_spreads_L2 a1) h_FU (0, M)
def fX10_had_L64 (k19 : (Int32 × hMem) → Option (Int32 × hMem)) (v1 : Int32) (v3 : Int32) (v4 : Int32) (v5 : Int32) (v6 : Int32) (M : hMem) : Option (Int32 × hMem) := if 24 ≤ v6 then (k19 (v6 + 1, M)) else ((fX10_seconds v1 v6 M).bind fun q75 => k19 (v6 + 1, q75))
def fX10_had_L19  (v1 : Int32) (v3 : Int32) (v4 : Int32) (v5 : Int32)  (k19 : (Int32 × hMem) → Option (Int32 × hMem)) (s : Int32 × hMem) : Option (Int32 × hMem) := if 24 < s.1 then (some ((-1), s.2)) else (if h_ib (s.2 0 36) 32 then (if (s.2 23 (s.2 0 36).toNatClampNeg) = (-1) then (fX10_had_L64 k19 v1 v3 v4 v5 s.1 s.2) else (if h_ib (s.2 0 36) 32 then (if ((v4 * (s.1 - v3)) + v5) < (s.2 23 (s.2 0 36).toNatClampNeg) then (fX10_had_L64 k19 v1 v3 v4 v5 s.1 s.2) else (some (s.1, s.2))) else none)) else none)
def fX10_had (a1 : Int32) (a2 : Int32) (a3 : Int32) (a4 : Int32) (a5 : Int32) (M : hMem) : Option (Int32 × hMem) := (fX10_spreads a2 M).bind fun q2 => (fX10_begins a1 q2).bind fun q7 => (fX10_goesOn a1 a3 q7).bind fun q13 => h_lp (fX10_had_L19 a1 a3 a4 a5) h_FU (a3, q13)
def fX10_hadBy (a1 : Int32) (a2 : Int32) (M : hMem) : Option (Int32 × hMem) := if h_ib (3 * a2) 12 then (if h_ib ((3 * a2) + 1) 12 then (if h_ib ((3 * a2) + 2) 12 then ((fX10_had a1 (M 8 (3 * a2).toNatClampNeg) 0 (M 8 ((3 * a2) + 1).toNatClampNeg) (M 8 ((3 * a2) + 2).toNatClampNeg) M).bind fun q31 => some (q31.1, q31.2)) else none) else none) else none
def fX10_caught (a1 : Int32) (a2 : Int32) (M : hMem) : Option (Int32 × hMem) := if (fX10_areThere a1 a2 M) = 0 then (some ((-5), M)) else ((fX10_hadBy a1 a2 M).bind fun q12 => some (q12.1, q12.2))
def fX10_who_L85 (k31 : (Int32 × Int32 × Int32 × hMem) → Option (Int32 × hMem)) (v1 : Int32) (v2 : Int32) (v4 : Int32) (v5 : Int32) (v6 : Int32) (v7 : Int32) (t0 : Int32) (M : hMem) : Option (Int32 × hMem) := if v7 = 0 then (k31 (t0, v4, v5 + 1, M)) else (k31 (t0, v6, v5 + 1, M))
def fX10_who_L72 (k31 : (Int32 × Int32 × Int32 × hMem) → Option (Int32 × hMem)) (v1 : Int32) (v2 : Int32) (v3 : Int32) (v4 : Int32) (v5 : Int32) (v6 : Int32) (t0 : Int32) (M : hMem) : Option (Int32 × hMem) := if t0 = 0 then (fX10_who_L85 k31 v1 v2 v4 v5 v6 t0 v3 M) else (fX10_who_L85 k31 v1 v2 v4 v5 v6 t0 v5 M)
def fX10_who_L71 (k31 : (Int32 × Int32 × Int32 × hMem) → Option (Int32 × hMem)) (v1 : Int32) (v2 : Int32) (v3 : Int32) (v4 : Int32) (v5 : Int32) (v6 : Int32) (M : hMem) : Option (Int32 × hMem) := fX10_who_L72 k31 v1 v2 v3 v4 v5 v6 0 M
def fX10_who_L67 (k31 : (Int32 × Int32 × Int32 × hMem) → Option (Int32 × hMem)) (v1 : Int32) (v2 : Int32) (v3 : Int32) (v4 : Int32) (v5 : Int32) (v6 : Int32) (M : hMem) : Option (Int32 × hMem) := fX10_who_L72 k31 v1 v2 v3 v4 v5 v6 1 M
def fX10_who_L31  (v1 : Int32) (v2 : Int32)  (k31 : (Int32 × Int32 × Int32 × hMem) → Option (Int32 × hMem)) (s : Int32 × Int32 × Int32 × hMem) : Option (Int32 × hMem) := if (s.2.2.2 0 8) ≤ s.2.2.1 then (if v2 = 0 then (some (s.1, s.2.2.2)) else (some (s.2.1, s.2.2.2))) else ((fX10_hadBy v1 s.2.2.1 s.2.2.2).bind fun q44 => if q44.1 = (-1) then (fX10_who_L71 k31 v1 v2 s.1 s.2.1 s.2.2.1 q44.1 q44.2) else (if s.1 = (-1) then (fX10_who_L67 k31 v1 v2 s.1 s.2.1 s.2.2.1 q44.1 q44.2) else (if s.2.1 ≤ q44.1 then (fX10_who_L71 k31 v1 v2 s.1 s.2.1 s.2.2.1 q44.1 q44.2) else (fX10_who_L67 k31 v1 v2 s.1 s.2.1 s.2.2.1 q44.1 q44.2))))
def fX10_who (a1 : Int32) (a2 : Int32) (M : hMem) : Option (Int32 × hMem) := if (fX10_isHat a1 M) = 0 then (some ((-5), M)) else (if (fX10_in a2 0 1 M) = 0 then (some ((-7), M)) else (h_lp (fX10_who_L31 a1 a2) h_FU ((-1), (-1), 0, M)))
def fX10_stand_L129 (k33 : (Int32 × Int32 × Int32 × hMem) → Option (Int32 × hMem)) (v1 : Int32) (v2 : Int32) (v3 : Int32) (v5 : Int32) (v6 : Int32) (v7 : Int32) (v8 : Int32) (t0 : Int32) (M : hMem) : Option (Int32 × hMem) := if v8 = 0 then (k33 (t0, v5, v6 + 1, M)) else (k33 (t0, v7, v6 + 1, M))
def fX10_stand_L115 (k33 : (Int32 × Int32 × Int32 × hMem) → Option (Int32 × hMem)) (v1 : Int32) (v2 : Int32) (v3 : Int32) (v4 : Int32) (v5 : Int32) (v6 : Int32) (v7 : Int32) (t0 : Int32) (M : hMem) : Option (Int32 × hMem) := if t0 = 0 then (fX10_stand_L129 k33 v1 v2 v3 v5 v6 v7 t0 v4 M) else (fX10_stand_L129 k33 v1 v2 v3 v5 v6 v7 t0 v6 M)
def fX10_stand_L114 (k33 : (Int32 × Int32 × Int32 × hMem) → Option (Int32 × hMem)) (v1 : Int32) (v2 : Int32) (v3 : Int32) (v4 : Int32) (v5 : Int32) (v6 : Int32) (v7 : Int32) (M : hMem) : Option (Int32 × hMem) := fX10_stand_L115 k33 v1 v2 v3 v4 v5 v6 v7 0 M
def fX10_stand_L110 (k33 : (Int32 × Int32 × Int32 × hMem) → Option (Int32 × hMem)) (v1 : Int32) (v2 : Int32) (v3 : Int32) (v4 : Int32) (v5 : Int32) (v6 : Int32) (v7 : Int32) (M : hMem) : Option (Int32 × hMem) := fX10_stand_L115 k33 v1 v2 v3 v4 v5 v6 v7 1 M
def fX10_stand_L33  (v1 : Int32) (v2 : Int32) (v3 : Int32)  (k33 : (Int32 × Int32 × Int32 × hMem) → Option (Int32 × hMem)) (s : Int32 × Int32 × Int32 × hMem) : Option (Int32 × hMem) := if 32 ≤ s.2.2.1 then (if v3 = 0 then (some (s.1, s.2.2.2)) else (some (s.2.1, s.2.2.2))) else ((fX10_has 0 s.2.2.1 s.2.2.2).bind fun q44 => if q44 = 0 then (if h_ib v1 4 then (if s.2.2.1 = (s.2.2.2 6 v1.toNatClampNeg) then (k33 (s.1, s.2.1, s.2.2.1 + 1, s.2.2.2)) else (if h_ib ((3 * v2) + 1) 12 then (if h_ib ((3 * v2) + 2) 12 then ((fX10_had v1 s.2.2.1 0 (s.2.2.2 8 ((3 * v2) + 1).toNatClampNeg) (s.2.2.2 8 ((3 * v2) + 2).toNatClampNeg) s.2.2.2).bind fun q86 => if q86.1 = (-1) then (fX10_stand_L114 k33 v1 v2 v3 s.1 s.2.1 s.2.2.1 q86.1 q86.2) else (if s.1 = (-1) then (fX10_stand_L110 k33 v1 v2 v3 s.1 s.2.1 s.2.2.1 q86.1 q86.2) else (if s.2.1 ≤ q86.1 then (fX10_stand_L114 k33 v1 v2 v3 s.1 s.2.1 s.2.2.1 q86.1 q86.2) else (fX10_stand_L110 k33 v1 v2 v3 s.1 s.2.1 s.2.2.1 q86.1 q86.2)))) else none) else none)) else none) else (k33 (s.1, s.2.1, s.2.2.1 + 1, s.2.2.2)))
def fX10_stand (a1 : Int32) (a2 : Int32) (a3 : Int32) (M : hMem) : Option (Int32 × hMem) := if (fX10_areThere a1 a2 M) = 0 then (some ((-5), M)) else (if (fX10_in a3 0 1 M) = 0 then (some ((-7), M)) else (h_lp (fX10_stand_L33 a1 a2 a3) h_FU ((-1), (-1), 0, M)))
def fX10_wait_L100 (k32 : (Int32 × Int32 × hMem) → Option (Int32 × hMem)) (v1 : Int32) (v2 : Int32) (v3 : Int32) (v4 : Int32) (t0 : Int32) (M : hMem) : Option (Int32 × hMem) := if t0 = 0 then (k32 (v4 + 0, t0, M)) else (k32 (v4 + 1, t0, M))
def fX10_wait_L99 (k32 : (Int32 × Int32 × hMem) → Option (Int32 × hMem)) (v1 : Int32) (v2 : Int32) (v3 : Int32) (v4 : Int32) (M : hMem) : Option (Int32 × hMem) := fX10_wait_L100 k32 v1 v2 v3 v4 0 M
def fX10_wait_L32  (v1 : Int32) (v2 : Int32) (v3 : Int32)  (k32 : (Int32 × Int32 × hMem) → Option (Int32 × hMem)) (s : Int32 × Int32 × hMem) : Option (Int32 × hMem) := if s.2.1 = 0 then (some (s.1, s.2.2)) else (if 24 ≤ s.1 then (some (s.1, s.2.2)) else (if h_ib (3 * v2) 12 then (if h_ib ((3 * v2) + 1) 12 then (if h_ib ((3 * v2) + 2) 12 then ((fX10_had v1 (s.2.2 8 (3 * v2).toNatClampNeg) (s.1 + 1) (s.2.2 8 ((3 * v2) + 1).toNatClampNeg) (s.2.2 8 ((3 * v2) + 2).toNatClampNeg) s.2.2).bind fun q78 => if q78.1 = (-1) then (fX10_wait_L99 k32 v1 v2 v3 s.1 q78.2) else (if v3 < q78.1 then (fX10_wait_L99 k32 v1 v2 v3 s.1 q78.2) else (fX10_wait_L100 k32 v1 v2 v3 s.1 1 q78.2))) else none) else none) else none))
def fX10_wait (a1 : Int32) (a2 : Int32) (M : hMem) : Option (Int32 × hMem) := if (fX10_areThere a1 a2 M) = 0 then (some ((-5), M)) else ((fX10_hadBy a1 a2 M).bind fun q15 => if q15.1 = (-1) then (some ((-1), q15.2)) else (h_lp (fX10_wait_L32 a1 a2 q15.1) h_FU (0, 1, q15.2)))
def fX10_pace_L25  (v1 : Int32) (v2 : Int32) (v3 : Int32)  (k25 : (Int32 × hMem) → Option (Int32 × hMem)) (s : Int32 × hMem) : Option (Int32 × hMem) := if 4 < s.1 then (some ((-1), s.2)) else (if h_ib (3 * v2) 12 then (if h_ib ((3 * v2) + 2) 12 then ((fX10_had v1 (s.2 8 (3 * v2).toNatClampNeg) 0 s.1 (s.2 8 ((3 * v2) + 2).toNatClampNeg) s.2).bind fun q54 => if q54.1 = (-1) then (k25 (s.1 + 1, q54.2)) else (if v3 = 0 then (some (s.1, q54.2)) else (if v3 ≤ q54.1 then (k25 (s.1 + 1, q54.2)) else (some (s.1, q54.2))))) else none) else none)
def fX10_pace (a1 : Int32) (a2 : Int32) (a3 : Int32) (M : hMem) : Option (Int32 × hMem) := if (fX10_areThere a1 a2 M) = 0 then (some ((-5), M)) else (if (fX10_areSeconds a3 M) = 0 then (some ((-7), M)) else (h_lp (fX10_pace_L25 a1 a2 a3) h_FU (0, M)))
def fX10_isInOrder_L7  (v1 : Int32) (M : hMem) (k7 : (Int32 × Int32 × Int32) → Option Int32) (s : Int32 × Int32 × Int32) : Option Int32 := if v1 ≤ s.2.2 then (if s.2.1 = 0 then (some 1) else (some 0)) else (if (fX10_in (h_rem s.2.1 10) 1 v1 M) = 0 then (some 0) else (if ((s.1 >>> ((h_rem s.2.1 10) &&& 31)) &&& 1) = 1 then (some 0) else (k7 (s.1 ||| (1 <<< ((h_rem s.2.1 10) &&& 31)), s.2.1 / 10, s.2.2 + 1))))
def fX10_isInOrder (a0 : Int32) (a1 : Int32) (M : hMem) : Option Int32 := h_lp (fX10_isInOrder_L7 a1 M) h_FU (0, a0, 0)
def fX10_lastBy_L59  (v1 : Int32) (v2 : Int32)  (k59 : (Int32 × Int32 × Int32 × hMem) → Option (Int32 × hMem)) (s : Int32 × Int32 × Int32 × hMem) : Option (Int32 × hMem) := if s.2.2.1 ≤ 0 then (some (s.2.1, s.2.2.2)) else (if s.2.1 = (-1) then (some (s.2.1, s.2.2.2)) else (if s.2.2.1 = 0 then none else if h_ib ((3 * v1) + 1) 12 then (if h_ib ((3 * v1) + 2) 12 then ((fX10_had ((h_rem (v2 / s.2.2.1) 10) - 1) s.1 s.2.1 (s.2.2.2 8 ((3 * v1) + 1).toNatClampNeg) (s.2.2.2 8 ((3 * v1) + 2).toNatClampNeg) s.2.2.2).bind fun q103 => k59 (q103.2 0 36, q103.1, s.2.2.1 / 10, q103.2)) else none) else none))
def fX10_lastBy (a1 : Int32) (a2 : Int32) (M : hMem) : Option (Int32 × hMem) := if h_ib (3 * a1) 12 then (if (M 0 3) ≤ 3 then (if (M 0 3) ≤ 2 then (if (M 0 3) ≤ 1 then (h_lp (fX10_lastBy_L59 a1 a2) h_FU (M 8 (3 * a1).toNatClampNeg, 0, 1, M)) else (h_lp (fX10_lastBy_L59 a1 a2) h_FU (M 8 (3 * a1).toNatClampNeg, 0, 10, M))) else (h_lp (fX10_lastBy_L59 a1 a2) h_FU (M 8 (3 * a1).toNatClampNeg, 0, 100, M))) else (h_lp (fX10_lastBy_L59 a1 a2) h_FU (M 8 (3 * a1).toNatClampNeg, 0, 1000, M))) else none
def fX10_order_L105 (k40 : (Int32 × Int32 × Int32 × hMem) → Option (Int32 × hMem)) (v1 : Int32) (v2 : Int32) (v4 : Int32) (v5 : Int32) (v6 : Int32) (v7 : Int32) (t0 : Int32) (M : hMem) : Option (Int32 × hMem) := if v7 = 0 then (k40 (t0, v4, v5 + 1, M)) else (k40 (t0, v6, v5 + 1, M))
def fX10_order_L92 (k40 : (Int32 × Int32 × Int32 × hMem) → Option (Int32 × hMem)) (v1 : Int32) (v2 : Int32) (v3 : Int32) (v4 : Int32) (v5 : Int32) (v6 : Int32) (t0 : Int32) (M : hMem) : Option (Int32 × hMem) := if t0 = 0 then (fX10_order_L105 k40 v1 v2 v4 v5 v6 t0 v3 M) else (fX10_order_L105 k40 v1 v2 v4 v5 v6 t0 v5 M)
def fX10_order_L91 (k40 : (Int32 × Int32 × Int32 × hMem) → Option (Int32 × hMem)) (v1 : Int32) (v2 : Int32) (v3 : Int32) (v4 : Int32) (v5 : Int32) (v6 : Int32) (M : hMem) : Option (Int32 × hMem) := fX10_order_L92 k40 v1 v2 v3 v4 v5 v6 0 M
def fX10_order_L87 (k40 : (Int32 × Int32 × Int32 × hMem) → Option (Int32 × hMem)) (v1 : Int32) (v2 : Int32) (v3 : Int32) (v4 : Int32) (v5 : Int32) (v6 : Int32) (M : hMem) : Option (Int32 × hMem) := fX10_order_L92 k40 v1 v2 v3 v4 v5 v6 1 M
def fX10_order_L40  (v1 : Int32) (v2 : Int32)  (k40 : (Int32 × Int32 × Int32 × hMem) → Option (Int32 × hMem)) (s : Int32 × Int32 × Int32 × hMem) : Option (Int32 × hMem) := if 5000 ≤ s.2.2.1 then (if v2 = 0 then (some (s.1, s.2.2.2)) else (some (s.2.1, s.2.2.2))) else ((fX10_isInOrder s.2.2.1 (s.2.2.2 0 3) s.2.2.2).bind fun q54 => if q54 = 0 then (k40 (s.1, s.2.1, s.2.2.1 + 1, s.2.2.2)) else ((fX10_lastBy v1 s.2.2.1 s.2.2.2).bind fun q64 => if q64.1 = (-1) then (fX10_order_L91 k40 v1 v2 s.1 s.2.1 s.2.2.1 q64.1 q64.2) else (if s.1 = (-1) then (fX10_order_L87 k40 v1 v2 s.1 s.2.1 s.2.2.1 q64.1 q64.2) else (if s.2.1 ≤ q64.1 then (fX10_order_L91 k40 v1 v2 s.1 s.2.1 s.2.2.1 q64.1 q64.2) else (fX10_order_L87 k40 v1 v2 s.1 s.2.1 s.2.2.1 q64.1 q64.2)))))
def fX10_order (a1 : Int32) (a2 : Int32) (M : hMem) : Option (Int32 × hMem) := if (fX10_isCatcher a1 M) = 0 then (some ((-5), M)) else (if (fX10_in a2 0 1 M) = 0 then (some ((-7), M)) else (if (M 0 3) = 0 then (some (0, M)) else (h_lp (fX10_order_L40 a1 a2) h_FU ((-1), (-1), 1, M))))
def fX10_gainOf (a1 : Int32) (a2 : Int32) (M : hMem) : Option (Int32 × hMem) := (fX10_hadBy a1 a2 M).bind fun q3 => if q3.1 = (-1) then (some ((-100), q3.2)) else (if h_ib ((3 * a2) + 1) 12 then (if h_ib a1 4 then (if h_ib a1 4 then ((fX10_asksOf 2 (q3.2 8 ((3 * a2) + 1).toNatClampNeg) (q3.2 0 37) (q3.2 5 a1.toNatClampNeg) q3.1 (q3.2 0 36) (q3.2 4 a1.toNatClampNeg) q3.2).bind fun q50 => some (q50.1, q50.2)) else none) else none) else none)
def fX10_gain (a1 : Int32) (a2 : Int32) (M : hMem) : Option (Int32 × hMem) := if (fX10_areThere a1 a2 M) = 0 then (some ((-1000), M)) else ((fX10_gainOf a1 a2 M).bind fun q12 => some (q12.1, q12.2))
def fX10_whom_L62 (k31 : (Int32 × Int32 × Int32 × hMem) → Option (Int32 × hMem)) (v1 : Int32) (v2 : Int32) (v4 : Int32) (v5 : Int32) (v6 : Int32) (t0 : Int32) (M : hMem) : Option (Int32 × hMem) := if v6 ≤ v4 then (k31 (t0, v4, v5 + 1, M)) else (k31 (t0, v6, v5 + 1, M))
def fX10_whom_L31  (v1 : Int32) (v2 : Int32)  (k31 : (Int32 × Int32 × Int32 × hMem) → Option (Int32 × hMem)) (s : Int32 × Int32 × Int32 × hMem) : Option (Int32 × hMem) := if (s.2.2.2 0 3) ≤ s.2.2.1 then (if v2 = 0 then (some (s.1, s.2.2.2)) else (some (s.2.1, s.2.2.2))) else ((fX10_gainOf s.2.2.1 v1 s.2.2.2).bind fun q44 => if q44.1 ≤ s.2.1 then (fX10_whom_L62 k31 v1 v2 s.2.1 s.2.2.1 q44.1 s.1 q44.2) else (fX10_whom_L62 k31 v1 v2 s.2.1 s.2.2.1 q44.1 s.2.2.1 q44.2))
def fX10_whom (a1 : Int32) (a2 : Int32) (M : hMem) : Option (Int32 × hMem) := if (fX10_isCatcher a1 M) = 0 then (some ((-5), M)) else (if (fX10_in a2 0 1 M) = 0 then (some ((-7), M)) else (h_lp (fX10_whom_L31 a1 a2) h_FU ((-1), 0, 0, M)))
def fX10_run_L106 (k47 : (Int32 × hMem) → Option (Int32 × hMem)) (v3 : Int32) (v4 : Int32) (M : hMem) : Option (Int32 × hMem) := if h_ib (v4 + 1) 4 then (if h_ib v4 4 then (k47 (v4 + 1, h_up M 7 v4.toNatClampNeg (M 7 (v4 + 1).toNatClampNeg))) else none) else none
def fX10_run_L47  (v3 : Int32)  (k47 : (Int32 × hMem) → Option (Int32 × hMem)) (s : Int32 × hMem) : Option (Int32 × hMem) := if (s.2 0 3) ≤ (s.1 + 1) then (some (v3, h_up s.2 0 3 ((s.2 0 3) - 1))) else (if h_ib (s.1 + 1) 4 then (if h_ib s.1 4 then (if h_ib (s.1 + 1) 4 then (if h_ib s.1 4 then (if h_ib (s.1 + 1) 4 then (if h_ib s.1 4 then (fX10_run_L106 k47 v3 s.1 (h_up (h_up (h_up s.2 4 s.1.toNatClampNeg (s.2 4 (s.1 + 1).toNatClampNeg)) 5 s.1.toNatClampNeg ((h_up s.2 4 s.1.toNatClampNeg (s.2 4 (s.1 + 1).toNatClampNeg)) 5 (s.1 + 1).toNatClampNeg)) 6 s.1.toNatClampNeg ((h_up (h_up s.2 4 s.1.toNatClampNeg (s.2 4 (s.1 + 1).toNatClampNeg)) 5 s.1.toNatClampNeg ((h_up s.2 4 s.1.toNatClampNeg (s.2 4 (s.1 + 1).toNatClampNeg)) 5 (s.1 + 1).toNatClampNeg)) 6 (s.1 + 1).toNatClampNeg))) else none) else none) else none) else none) else none) else none)
def fX10_run (a1 : Int32) (a2 : Int32) (M : hMem) : Option (Int32 × hMem) := if (fX10_areThere a1 a2 M) = 0 then (some ((-5), M)) else ((fX10_hadBy a1 a2 M).bind fun q15 => if q15.1 = (-1) then (some ((-3), q15.2)) else (if h_ib (3 * a2) 12 then ((fX10_passes q15.1 (h_up q15.2 8 (3 * a2).toNatClampNeg (q15.2 0 36))).bind fun q41 => h_lp (fX10_run_L47 q15.1) h_FU (a1, q41)) else none))
def fX10_squareHeld (a1 : Int32) (a2 : Int32) (a3 : Int32) (a4 : Int32) (M : hMem) : Option (Int32 × hMem) := (fX10_squareBehind a1 a2 (h_up (h_up M 0 38 a3) 0 39 a4)).bind fun q14 => some (q14.1, h_up q14.2 0 39 0)
def fX10_held (a1 : Int32) (a2 : Int32) (a3 : Int32) (M : hMem) : Option (Int32 × hMem) := if (fX10_isHat a1 M) = 0 then (some ((-5), M)) else (if (fX10_areSeconds a2 M) = 0 then (some ((-7), M)) else (if a3 < 0 then (some ((-7), M)) else (if 24 ≤ (a3 / 100) then (some ((-7), M)) else (if (h_rem a3 100) ≤ 24 then ((fX10_squareHeld a1 a2 (a3 / 100) (h_rem a3 100) M).bind fun q54 => some (q54.1, q54.2)) else (some ((-7), M))))))
def fX10_save_L38 (k30 : (Int32 × hMem) → Option (Int32 × hMem)) (v1 : Int32) (v2 : Int32)  (k38 : (Int32 × hMem) → Option (Int32 × hMem)) (s : Int32 × hMem) : Option (Int32 × hMem) := if 24 ≤ s.1 then (k30 (v2 + 1, s.2)) else ((fX10_squareHeld v1 24 s.1 v2 s.2).bind fun q52 => (fX10_has 1 q52.1 q52.2).bind fun q55 => if q55 = 0 then (some ((100 * s.1) + v2, q52.2)) else (k38 (s.1 + 1, q52.2)))
def fX10_save_L30  (v1 : Int32)  (k30 : (Int32 × hMem) → Option (Int32 × hMem)) (s : Int32 × hMem) : Option (Int32 × hMem) := if 24 < s.1 then (some ((-1), s.2)) else (h_lp (fX10_save_L38 k30 v1 s.1) h_FU (0, s.2))
def fX10_save (a1 : Int32) (M : hMem) : Option (Int32 × hMem) := if (fX10_isHat a1 M) = 0 then (some ((-5), M)) else ((fX10_squareBehind a1 24 M).bind fun q17 => (fX10_has 1 q17.1 q17.2).bind fun q20 => if q20 = 0 then (some (0, q17.2)) else (h_lp (fX10_save_L30 a1) h_FU (1, q17.2)))
def fX10_turned_L45  (v1 : Int32) (v2 : Int32) (v3 : Int32) (v4 : Int32)  (k45 : (Int32 × Int32 × hMem) → Option (Int32 × hMem)) (s : Int32 × Int32 × hMem) : Option (Int32 × hMem) := if 4 < s.2.1 then (if h_ib v2 24 then (some (s.1, h_up s.2.2 2 v2.toNatClampNeg v4)) else none) else (if h_ib v2 24 then ((fX10_squareBehind v1 24 (h_up s.2.2 2 v2.toNatClampNeg s.2.1)).bind fun q65 => if q65.1 = v3 then (k45 (s.1 ||| (1 <<< (s.2.1 &&& 31)), s.2.1 + 1, q65.2)) else (k45 (s.1 ||| 0, s.2.1 + 1, q65.2))) else none)
def fX10_turned (a1 : Int32) (a2 : Int32) (a3 : Int32) (M : hMem) : Option (Int32 × hMem) := if (fX10_isHat a1 M) = 0 then (some ((-5), M)) else (if (fX10_in a2 0 23 M) = 0 then (some ((-7), M)) else (if (fX10_isSquare a3 M) = 0 then (some ((-7), M)) else (if h_ib a2 24 then (h_lp (fX10_turned_L45 a1 a2 a3 (M 2 a2.toNatClampNeg)) h_FU (0, 0, M)) else none)))
def fX10_isSooner (a0 : Int32) (a1 : Int32) (M : hMem) : Int32 := if a0 = (-1) then 0 else (if a1 = (-1) then 1 else (if a1 ≤ a0 then 0 else 1))
def fX10_lull_L100 (k38 : (Int32 × Int32 × Int32 × hMem) → Option (Int32 × hMem)) (v1 : Int32) (v2 : Int32) (v3 : Int32) (v5 : Int32) (v6 : Int32) (v8 : Int32) (v9 : Int32) (t0 : Int32) (M : hMem) : Option (Int32 × hMem) := if v9 = 0 then (k38 (t0, v5, v6 + 1, M)) else (k38 (t0, v8, v6 + 1, M))
def fX10_lull_L38  (v1 : Int32) (v2 : Int32) (v3 : Int32)  (k38 : (Int32 × Int32 × Int32 × hMem) → Option (Int32 × hMem)) (s : Int32 × Int32 × Int32 × hMem) : Option (Int32 × hMem) := if 24 ≤ s.2.2.1 then (if v3 = 0 then (some (s.1, s.2.2.2)) else (some (s.2.1, s.2.2.2))) else (if h_ib s.2.2.1 24 then (if h_ib s.2.2.1 24 then ((fX10_hadBy v1 v2 (h_up s.2.2.2 2 s.2.2.1.toNatClampNeg 4)).bind fun q65 => if h_ib s.2.2.1 24 then (if (fX10_isSooner q65.1 s.2.1 (h_up q65.2 2 s.2.2.1.toNatClampNeg (s.2.2.2 2 s.2.2.1.toNatClampNeg))) = 0 then (fX10_lull_L100 k38 v1 v2 v3 s.2.1 s.2.2.1 q65.1 (fX10_isSooner q65.1 s.2.1 (h_up q65.2 2 s.2.2.1.toNatClampNeg (s.2.2.2 2 s.2.2.1.toNatClampNeg))) s.1 (h_up q65.2 2 s.2.2.1.toNatClampNeg (s.2.2.2 2 s.2.2.1.toNatClampNeg))) else (fX10_lull_L100 k38 v1 v2 v3 s.2.1 s.2.2.1 q65.1 (fX10_isSooner q65.1 s.2.1 (h_up q65.2 2 s.2.2.1.toNatClampNeg (s.2.2.2 2 s.2.2.1.toNatClampNeg))) s.2.2.1 (h_up q65.2 2 s.2.2.1.toNatClampNeg (s.2.2.2 2 s.2.2.1.toNatClampNeg)))) else none) else none) else none)
def fX10_lull (a1 : Int32) (a2 : Int32) (a3 : Int32) (M : hMem) : Option (Int32 × hMem) := if (fX10_areThere a1 a2 M) = 0 then (some ((-5), M)) else (if (fX10_in a3 0 1 M) = 0 then (some ((-7), M)) else ((fX10_hadBy a1 a2 M).bind fun q30 => h_lp (fX10_lull_L38 a1 a2 a3) h_FU ((-1), q30.1, 0, q30.2)))
def fX10_fence_L122 (k46 : (Int32 × Int32 × Int32 × hMem) → Option (Int32 × hMem)) (v1 : Int32) (v2 : Int32) (v3 : Int32) (v5 : Int32) (v6 : Int32) (v7 : Int32) (v8 : Int32) (v9 : Int32) (t0 : Int32) (M : hMem) : Option (Int32 × hMem) := if v9 = 0 then (k46 (t0, v5, v7 + 1, M)) else (k46 (t0, v8, v7 + 1, M))
def fX10_fence_L46  (v1 : Int32) (v2 : Int32) (v3 : Int32) (v6 : Int32)  (k46 : (Int32 × Int32 × Int32 × hMem) → Option (Int32 × hMem)) (s : Int32 × Int32 × Int32 × hMem) : Option (Int32 × hMem) := if 32 ≤ s.2.2.1 then (if v3 = 0 then (some (s.1, s.2.2.2)) else (some (s.2.1, s.2.2.2))) else ((fX10_has 0 s.2.2.1 s.2.2.2).bind fun q57 => if q57 = 0 then ((fX10_isAnyIn s.2.2.1 s.2.2.2).bind fun q66 => if q66 = 0 then ((fX10_hadBy v1 v2 (h_up s.2.2.2 1 0 ((s.2.2.2 1 0) ||| (1 <<< (s.2.2.1 &&& 31))))).bind fun q88 => if (fX10_isSooner q88.1 s.2.1 (h_up q88.2 1 0 v6)) = 0 then (fX10_fence_L122 k46 v1 v2 v3 s.2.1 v6 s.2.2.1 q88.1 (fX10_isSooner q88.1 s.2.1 (h_up q88.2 1 0 v6)) s.1 (h_up q88.2 1 0 v6)) else (fX10_fence_L122 k46 v1 v2 v3 s.2.1 v6 s.2.2.1 q88.1 (fX10_isSooner q88.1 s.2.1 (h_up q88.2 1 0 v6)) s.2.2.1 (h_up q88.2 1 0 v6))) else (k46 (s.1, s.2.1, s.2.2.1 + 1, s.2.2.2))) else (k46 (s.1, s.2.1, s.2.2.1 + 1, s.2.2.2)))
def fX10_fence (a1 : Int32) (a2 : Int32) (a3 : Int32) (M : hMem) : Option (Int32 × hMem) := if (fX10_areThere a1 a2 M) = 0 then (some ((-5), M)) else (if (fX10_in a3 0 1 M) = 0 then (some ((-7), M)) else ((fX10_hadBy a1 a2 M).bind fun q30 => h_lp (fX10_fence_L46 a1 a2 a3 (q30.2 1 0)) h_FU ((-1), q30.1, 0, q30.2)))
def fX10_sheetWrong (a1 : Int32) (M : hMem) : Option Int32 := if (fX10_in a1 0 3 M) = 0 then (some (-2)) else (if h_ib a1 4 then (if (M 13 a1.toNatClampNeg) = (-1) then (some (-11)) else (if h_ib a1 4 then (if (M 14 a1.toNatClampNeg) ≤ 25 then (some 0) else (some (-2))) else none)) else none)
def fX10_toldWrong (a1 : Int32) (a2 : Int32) (M : hMem) : Option Int32 := (fX10_sheetWrong a1 M).bind fun q2 => if q2 = 0 then (if (fX10_isHat a2 M) = 0 then (some (-5)) else (some 0)) else (some q2)
def fX10_unlike_L2  (v1 : Int32) (v2 : Int32)  (k2 : (Int32 × hMem) → Option (Int32 × hMem)) (s : Int32 × hMem) : Option (Int32 × hMem) := if h_ib v1 4 then (if (s.2 14 v1.toNatClampNeg) ≤ s.1 then (some ((-1), s.2)) else (if h_ib ((40 * v1) + s.1) 160 then (if (s.2 15 ((40 * v1) + s.1).toNatClampNeg) = (s.2 0 36) then (if 24 ≤ s.1 then (k2 (s.1 + 1, s.2)) else ((fX10_seconds v2 s.1 s.2).bind fun q41 => k2 (s.1 + 1, q41))) else (some (s.1, s.2))) else none)) else none
def fX10_unlike (a1 : Int32) (a2 : Int32) (M : hMem) : Option (Int32 × hMem) := h_lp (fX10_unlike_L2 a1 a2) h_FU (0, M)
def fX10_unlikeNow (a1 : Int32) (a2 : Int32) (M : hMem) : Option (Int32 × hMem) := (fX10_begins a2 M).bind fun q2 => (fX10_unlike a1 a2 q2).bind fun q8 => some (q8.1, q8.2)
def fX10_judge (a1 : Int32) (a2 : Int32) (M : hMem) : Option (Int32 × hMem) := (fX10_toldWrong a1 a2 M).bind fun q3 => if q3 = 0 then ((fX10_unlikeNow a1 a2 M).bind fun q14 => some (q14.1, q14.2)) else (some (q3, M))
def fX10_whose_L17  (v1 : Int32)  (k17 : (Int32 × Int32 × hMem) → Option (Int32 × hMem)) (s : Int32 × Int32 × hMem) : Option (Int32 × hMem) := if (s.2.2 0 3) ≤ s.2.1 then (some (s.1, s.2.2)) else ((fX10_unlikeNow v1 s.2.1 s.2.2).bind fun q31 => if q31.1 = (-1) then (k17 (s.1 ||| (1 <<< (s.2.1 &&& 31)), s.2.1 + 1, q31.2)) else (k17 (s.1 ||| 0, s.2.1 + 1, q31.2)))
def fX10_whose (a1 : Int32) (M : hMem) : Option (Int32 × hMem) := (fX10_sheetWrong a1 M).bind fun q2 => if q2 = 0 then (h_lp (fX10_whose_L17 a1) h_FU (0, 0, M)) else (some (q2, M))
def fX10_lay_L19  (v1 : Int32) (v2 : Int32)  (k19 : (Int32 × Int32 × hMem) → Option (Int32 × hMem)) (s : Int32 × Int32 × hMem) : Option (Int32 × hMem) := if 96 ≤ s.2.1 then (some (s.1, s.2.2)) else ((fX10_has 0 (s.2.1 / 3) (h_up (h_up s.2.2 0 36 (s.2.1 / 3)) 0 37 (h_rem s.2.1 3))).bind fun q50 => if q50 = 0 then ((fX10_unlike v1 v2 (h_up (h_up s.2.2 0 36 (s.2.1 / 3)) 0 37 (h_rem s.2.1 3))).bind fun q59 => if q59.1 = (-1) then (k19 (s.1 ||| (1 <<< ((h_rem s.2.1 3) &&& 31)), s.2.1 + 1, q59.2)) else (k19 (s.1 ||| 0, s.2.1 + 1, q59.2))) else (k19 (s.1 ||| 0, s.2.1 + 1, h_up (h_up s.2.2 0 36 (s.2.1 / 3)) 0 37 (h_rem s.2.1 3))))
def fX10_lay (a1 : Int32) (a2 : Int32) (M : hMem) : Option (Int32 × hMem) := (fX10_toldWrong a1 a2 M).bind fun q3 => if q3 = 0 then (h_lp (fX10_lay_L19 a1 a2) h_FU (0, 0, M)) else (some (q3, M))
def fX10_kinds_L100 (k50 : (Int32 × Int32 × hMem) → Option (Int32 × hMem)) (v1 : Int32) (v2 : Int32) (v3 : Int32) (v5 : Int32) (v6 : Int32) (v7 : Int32) (v8 : Int32) (t2 : Int32) (t1 : Int32) (M : hMem) : Option (Int32 × hMem) := if h_ib t1 4 then ((fX10_unlikeNow v1 v2 (h_up M 5 t1.toNatClampNeg t2)).bind fun q106 => if q106.1 = (-1) then (k50 (v7 ||| (1 <<< (v8 &&& 31)), v8 + 1, q106.2)) else (k50 (v7 ||| 0, v8 + 1, q106.2))) else none
def fX10_kinds_L82 (k50 : (Int32 × Int32 × hMem) → Option (Int32 × hMem)) (v1 : Int32) (v2 : Int32) (v3 : Int32) (v5 : Int32) (v6 : Int32) (v7 : Int32) (v8 : Int32) (t2 : Int32) (t1 : Int32) (M : hMem) : Option (Int32 × hMem) := if h_ib t1 4 then (if v3 = 1 then (fX10_kinds_L100 k50 v1 v2 v3 v5 v6 v7 v8 v8 v2 (h_up M 4 t1.toNatClampNeg t2)) else (fX10_kinds_L100 k50 v1 v2 v3 v5 v6 v7 v8 v6 v2 (h_up M 4 t1.toNatClampNeg t2))) else none
def fX10_kinds_L63 (k50 : (Int32 × Int32 × hMem) → Option (Int32 × hMem)) (v1 : Int32) (v2 : Int32) (v3 : Int32) (v5 : Int32) (v6 : Int32) (v7 : Int32) (v8 : Int32) (t1 : Int32) (t0 : Int32) (M : hMem) : Option (Int32 × hMem) := if t1 ≤ t0 then (if h_ib v2 4 then (if h_ib v2 4 then (some (v7, h_up (h_up M 4 v2.toNatClampNeg v5) 5 v2.toNatClampNeg v6)) else none) else none) else (if v3 = 0 then (fX10_kinds_L82 k50 v1 v2 v3 v5 v6 v7 v8 v8 v2 M) else (fX10_kinds_L82 k50 v1 v2 v3 v5 v6 v7 v8 v5 v2 M))
def fX10_kinds_L50  (v1 : Int32) (v2 : Int32) (v3 : Int32) (v5 : Int32) (v6 : Int32)  (k50 : (Int32 × Int32 × hMem) → Option (Int32 × hMem)) (s : Int32 × Int32 × hMem) : Option (Int32 × hMem) := if v3 = 0 then (fX10_kinds_L63 k50 v1 v2 v3 v5 v6 s.1 s.2.1 6 s.2.1 s.2.2) else (fX10_kinds_L63 k50 v1 v2 v3 v5 v6 s.1 s.2.1 10 s.2.1 s.2.2)
def fX10_kinds (a1 : Int32) (a2 : Int32) (a3 : Int32) (M : hMem) : Option (Int32 × hMem) := (fX10_toldWrong a1 a2 M).bind fun q3 => if q3 = 0 then (if (fX10_in a3 0 1 M) = 0 then (some ((-7), M)) else (if h_ib a2 4 then (if h_ib a2 4 then (h_lp (fX10_kinds_L50 a1 a2 a3 (M 4 a2.toNatClampNeg) (M 5 a2.toNatClampNeg)) h_FU (0, 0, M)) else none) else none)) else (some (q3, M))
def fX10_laws_L25  (v1 : Int32) (v2 : Int32) (v4 : Int32)  (k25 : (Int32 × Int32 × hMem) → Option (Int32 × hMem)) (s : Int32 × Int32 × hMem) : Option (Int32 × hMem) := if (s.2.2 0 14) ≤ s.2.1 then (some (s.1, h_up s.2.2 0 15 v4)) else ((fX10_unlikeNow v1 v2 (h_up s.2.2 0 15 s.2.1)).bind fun q45 => if q45.1 = (-1) then (k25 (s.1 ||| (1 <<< (s.2.1 &&& 31)), s.2.1 + 1, q45.2)) else (k25 (s.1 ||| 0, s.2.1 + 1, q45.2)))
def fX10_laws (a1 : Int32) (a2 : Int32) (M : hMem) : Option (Int32 × hMem) := (fX10_toldWrong a1 a2 M).bind fun q3 => if q3 = 0 then (h_lp (fX10_laws_L25 a1 a2 (M 0 15)) h_FU (0, 0, M)) else (some (q3, M))
def fX10_film_L90 (k58 : (Int32 × hMem) → Option (Int32 × hMem)) (v1 : Int32) (v2 : Int32) (v3 : Int32) (v4 : Int32) (t2 : Int32) (t1 : Int32) (M : hMem) : Option (Int32 × hMem) := if h_ib t1 160 then (if 24 ≤ v4 then (k58 (v4 + 1, h_up M 15 t1.toNatClampNeg t2)) else ((fX10_seconds v2 v4 (h_up M 15 t1.toNatClampNeg t2)).bind fun q102 => k58 (v4 + 1, q102))) else none
def fX10_film_L58  (v1 : Int32) (v2 : Int32) (v3 : Int32)  (k58 : (Int32 × hMem) → Option (Int32 × hMem)) (s : Int32 × hMem) : Option (Int32 × hMem) := if 40 ≤ s.1 then (some (v3, s.2)) else (if v3 ≤ s.1 then (fX10_film_L90 k58 v1 v2 v3 s.1 0 ((40 * v1) + s.1) s.2) else (fX10_film_L90 k58 v1 v2 v3 s.1 (s.2 0 36) ((40 * v1) + s.1) s.2))
def fX10_film (a1 : Int32) (a2 : Int32) (a3 : Int32) (M : hMem) : Option (Int32 × hMem) := if (fX10_in a1 0 3 M) = 0 then (some ((-2), M)) else (if (fX10_isHat a2 M) = 0 then (some ((-5), M)) else (if (fX10_in a3 0 25 M) = 0 then (some ((-7), M)) else (if h_ib a1 4 then (if h_ib a1 4 then ((fX10_begins a2 (h_up (h_up M 13 a1.toNatClampNeg 2) 14 a1.toNatClampNeg a3)).bind fun q52 => h_lp (fX10_film_L58 a1 a2 a3) h_FU (0, q52)) else none) else none)))
def fX10_blowsBy_L66 (k8 : (Int64 × Int32 × hMem) → Option hMem) (v2 : Int64) (v4 : Int32) (M : hMem) : Option hMem := if h_ib v4 24 then (k8 (v2, v4 + 1, h_up M 3 v4.toNatClampNeg ((h_lrem (v2 / 5) 10).toInt32))) else none
def fX10_blowsBy_L8    (k8 : (Int64 × Int32 × hMem) → Option hMem) (s : Int64 × Int32 × hMem) : Option hMem := if 24 ≤ s.2.1 then (some s.2.2) else (if h_ib s.2.1 24 then (if h_ib s.2.1 24 then (if h_ib s.2.1 24 then (if h_ib s.2.1 24 then (if h_ib s.2.1 24 then (fX10_blowsBy_L66 k8 (h_lrem (s.1 * 48271) 2147483647) s.2.1 (h_up (h_up (h_up s.2.2 24 s.2.1.toNatClampNeg (s.2.2 2 s.2.1.toNatClampNeg)) 25 s.2.1.toNatClampNeg ((h_up s.2.2 24 s.2.1.toNatClampNeg (s.2.2 2 s.2.1.toNatClampNeg)) 3 s.2.1.toNatClampNeg)) 2 s.2.1.toNatClampNeg ((h_lrem (h_lrem (s.1 * 48271) 2147483647) 5).toInt32))) else none) else none) else none) else none) else none)
def fX10_blowsBy (a1 : Int32) (M : hMem) : Option hMem := h_lp (fX10_blowsBy_L8) h_FU (a1.toInt64 + 1, 0, M)
def fX10_laysGusts_L2    (k2 : (Int32 × hMem) → Option hMem) (s : Int32 × hMem) : Option hMem := if 24 ≤ s.1 then (some s.2) else (if h_ib s.1 24 then (if h_ib s.1 24 then (if h_ib s.1 24 then (if h_ib s.1 24 then (k2 (s.1 + 1, h_up (h_up s.2 2 s.1.toNatClampNeg (s.2 24 s.1.toNatClampNeg)) 3 s.1.toNatClampNeg ((h_up s.2 2 s.1.toNatClampNeg (s.2 24 s.1.toNatClampNeg)) 25 s.1.toNatClampNeg))) else none) else none) else none) else none)
def fX10_laysGusts  (M : hMem) : Option hMem := h_lp (fX10_laysGusts_L2) h_FU (0, M)
def fX10_drawn (a1 : Int32) (a2 : Int32) (a3 : Int32) (M : hMem) : Option (Int32 × hMem) := if (fX10_isHat a2 M) = 0 then (some ((-5), M)) else (if (fX10_in a1 0 99999 M) = 0 then (some ((-7), M)) else (if (fX10_areSeconds a3 M) = 0 then (some ((-7), M)) else ((fX10_blowsBy a1 M).bind fun q34 => (fX10_squareBehind a2 a3 q34).bind fun q40 => (fX10_laysGusts q40.2).bind fun q46 => some (q40.1, q46))))
def fX10_lowest_L16  (v0 : Int64) (v2 : Int64) (v4 : Int32) (M : hMem) (k16 : (Int64 × Int64) → Option Int64) (s : Int64 × Int64) : Option Int64 := if (lg_cmp s.2 0) = 0 then (if v4 = 0 then (if s.1 = 0 then none else some (v0 / s.1)) else (if s.1 = 0 then none else some (v2 / s.1))) else (if s.2 = 0 then none else k16 (s.2, h_lrem s.1 s.2))
def fX10_lowest (a0 : Int64) (a2 : Int64) (a4 : Int32) (M : hMem) : Option Int64 := if (lg_cmp a0 0) = 0 then (some a4.toInt64) else (h_lp (fX10_lowest_L16 a0 a2 a4 M) h_FU (a0, a2))
def fX10_odds_L72  (v1 : Int32) (v2 : Int32) (v3 : Int32) (v4 : Int32)  (k72 : (Int64 × Int32 × hMem) → Option (Int64 × hMem)) (s : Int64 × Int32 × hMem) : Option (Int64 × hMem) := if v2 ≤ s.2.1 then ((fX10_lowest s.1 v2.toInt64 v4 s.2.2).bind fun q128 => some (q128, s.2.2)) else ((fX10_blowsBy (v1 + s.2.1) s.2.2).bind fun q83 => (fX10_hadBy (v3 / 10) (h_rem v3 10) q83).bind fun q97 => if q97.1 = (-1) then ((fX10_laysGusts q97.2).bind fun q113 => k72 (s.1 + 0, s.2.1 + 1, q113)) else ((fX10_laysGusts q97.2).bind fun q113 => k72 (s.1 + 1, s.2.1 + 1, q113)))
def fX10_odds_L55  (v1 : Int32) (v2 : Int32) (v3 : Int32) (v4 : Int32) (t0 : Int32) (M : hMem) : Option (Int64 × hMem) := if t0 = 0 then (some ((-4611686018427387904), M)) else (h_lp (fX10_odds_L72 v1 v2 v3 v4) h_FU (0, 0, M))
def fX10_odds_L54  (v1 : Int32) (v2 : Int32) (v3 : Int32) (v4 : Int32) (M : hMem) : Option (Int64 × hMem) := fX10_odds_L55 v1 v2 v3 v4 0 M
def fX10_odds (a1 : Int32) (a2 : Int32) (a3 : Int32) (a4 : Int32) (M : hMem) : Option (Int64 × hMem) := if (fX10_in a1 0 99999 M) = 0 then (fX10_odds_L54 a1 a2 a3 a4 M) else (if (fX10_in a2 1 30 M) = 0 then (fX10_odds_L54 a1 a2 a3 a4 M) else (if a3 < 0 then (fX10_odds_L54 a1 a2 a3 a4 M) else (if (fX10_areThere (a3 / 10) (h_rem a3 10) M) = 0 then (fX10_odds_L54 a1 a2 a3 a4 M) else (if (fX10_in a4 0 1 M) = 0 then (fX10_odds_L54 a1 a2 a3 a4 M) else (fX10_odds_L55 a1 a2 a3 a4 1 M)))))
def fX10_image_L172    (k172 : (Int32 × hMem) → Option (Int32 × hMem)) (s : Int32 × hMem) : Option (Int32 × hMem) := if 12 ≤ s.1 then (some (s.2 0 3, s.2)) else (if h_ib s.1 12 then (if h_ib (67 + s.1) 79 then (k172 (s.1 + 1, h_up s.2 12 (67 + s.1).toNatClampNeg (s.2 8 s.1.toNatClampNeg))) else none) else none)
def fX10_image_L149 (k99 : (Int32 × hMem) → Option (Int32 × hMem)) (v1 : Int32) (M : hMem) : Option (Int32 × hMem) := if h_ib v1 4 then (if h_ib (63 + v1) 79 then (k99 (v1 + 1, h_up M 12 (63 + v1).toNatClampNeg (M 7 v1.toNatClampNeg))) else none) else none
def fX10_image_L99    (k99 : (Int32 × hMem) → Option (Int32 × hMem)) (s : Int32 × hMem) : Option (Int32 × hMem) := if 4 ≤ s.1 then (h_lp (fX10_image_L172) h_FU (0, s.2)) else (if h_ib s.1 4 then (if h_ib (51 + s.1) 79 then (if h_ib s.1 4 then (if h_ib (55 + s.1) 79 then (if h_ib s.1 4 then (if h_ib (59 + s.1) 79 then (fX10_image_L149 k99 s.1 (h_up (h_up (h_up s.2 12 (51 + s.1).toNatClampNeg (s.2 4 s.1.toNatClampNeg)) 12 (55 + s.1).toNatClampNeg ((h_up s.2 12 (51 + s.1).toNatClampNeg (s.2 4 s.1.toNatClampNeg)) 5 s.1.toNatClampNeg)) 12 (59 + s.1).toNatClampNeg ((h_up (h_up s.2 12 (51 + s.1).toNatClampNeg (s.2 4 s.1.toNatClampNeg)) 12 (55 + s.1).toNatClampNeg ((h_up s.2 12 (51 + s.1).toNatClampNeg (s.2 4 s.1.toNatClampNeg)) 5 s.1.toNatClampNeg)) 6 s.1.toNatClampNeg))) else none) else none) else none) else none) else none) else none)
def fX10_image_L56    (k56 : (Int32 × hMem) → Option (Int32 × hMem)) (s : Int32 × hMem) : Option (Int32 × hMem) := if 24 ≤ s.1 then (h_lp (fX10_image_L99) h_FU (0, s.2)) else (if h_ib s.1 24 then (if h_ib (3 + s.1) 79 then (if h_ib s.1 24 then (if h_ib (27 + s.1) 79 then (k56 (s.1 + 1, h_up (h_up s.2 12 (3 + s.1).toNatClampNeg (s.2 2 s.1.toNatClampNeg)) 12 (27 + s.1).toNatClampNeg ((h_up s.2 12 (3 + s.1).toNatClampNeg (s.2 2 s.1.toNatClampNeg)) 3 s.1.toNatClampNeg))) else none) else none) else none) else none)
def fX10_image_L31    (k31 : (Int32 × hMem) → Option (Int32 × hMem)) (s : Int32 × hMem) : Option (Int32 × hMem) := if 3 ≤ s.1 then (h_lp (fX10_image_L56) h_FU (0, s.2)) else (if h_ib s.1 3 then (if h_ib s.1 79 then (k31 (s.1 + 1, h_up s.2 12 s.1.toNatClampNeg (s.2 1 s.1.toNatClampNeg))) else none) else none)
def fX10_image_L29   (M : hMem) : Option (Int32 × hMem) := h_lp (fX10_image_L31) h_FU (0, M)
def fX10_image  (M : hMem) : Option (Int32 × hMem) := fX10_image_L29 (h_up (h_up (h_up (h_up M 0 16 1) 0 17 ((h_up M 0 16 1) 0 3)) 0 18 ((h_up (h_up M 0 16 1) 0 17 ((h_up M 0 16 1) 0 3)) 0 8)) 0 19 ((h_up (h_up (h_up M 0 16 1) 0 17 ((h_up M 0 16 1) 0 3)) 0 18 ((h_up (h_up M 0 16 1) 0 17 ((h_up M 0 16 1) 0 3)) 0 8)) 0 15))
def fX10_back_L177    (k177 : (Int32 × hMem) → Option (Int32 × hMem)) (s : Int32 × hMem) : Option (Int32 × hMem) := if 12 ≤ s.1 then (some (s.2 0 3, s.2)) else (if h_ib (67 + s.1) 79 then (if h_ib s.1 12 then (k177 (s.1 + 1, h_up s.2 8 s.1.toNatClampNeg (s.2 12 (67 + s.1).toNatClampNeg))) else none) else none)
def fX10_back_L154 (k104 : (Int32 × hMem) → Option (Int32 × hMem)) (v1 : Int32) (M : hMem) : Option (Int32 × hMem) := if h_ib (63 + v1) 79 then (if h_ib v1 4 then (k104 (v1 + 1, h_up M 7 v1.toNatClampNeg (M 12 (63 + v1).toNatClampNeg))) else none) else none
def fX10_back_L104    (k104 : (Int32 × hMem) → Option (Int32 × hMem)) (s : Int32 × hMem) : Option (Int32 × hMem) := if 4 ≤ s.1 then (h_lp (fX10_back_L177) h_FU (0, s.2)) else (if h_ib (51 + s.1) 79 then (if h_ib s.1 4 then (if h_ib (55 + s.1) 79 then (if h_ib s.1 4 then (if h_ib (59 + s.1) 79 then (if h_ib s.1 4 then (fX10_back_L154 k104 s.1 (h_up (h_up (h_up s.2 4 s.1.toNatClampNeg (s.2 12 (51 + s.1).toNatClampNeg)) 5 s.1.toNatClampNeg ((h_up s.2 4 s.1.toNatClampNeg (s.2 12 (51 + s.1).toNatClampNeg)) 12 (55 + s.1).toNatClampNeg)) 6 s.1.toNatClampNeg ((h_up (h_up s.2 4 s.1.toNatClampNeg (s.2 12 (51 + s.1).toNatClampNeg)) 5 s.1.toNatClampNeg ((h_up s.2 4 s.1.toNatClampNeg (s.2 12 (51 + s.1).toNatClampNeg)) 12 (55 + s.1).toNatClampNeg)) 12 (59 + s.1).toNatClampNeg))) else none) else none) else none) else none) else none) else none)
def fX10_back_L61    (k61 : (Int32 × hMem) → Option (Int32 × hMem)) (s : Int32 × hMem) : Option (Int32 × hMem) := if 24 ≤ s.1 then (h_lp (fX10_back_L104) h_FU (0, s.2)) else (if h_ib (3 + s.1) 79 then (if h_ib s.1 24 then (if h_ib (27 + s.1) 79 then (if h_ib s.1 24 then (k61 (s.1 + 1, h_up (h_up s.2 2 s.1.toNatClampNeg (s.2 12 (3 + s.1).toNatClampNeg)) 3 s.1.toNatClampNeg ((h_up s.2 2 s.1.toNatClampNeg (s.2 12 (3 + s.1).toNatClampNeg)) 12 (27 + s.1).toNatClampNeg))) else none) else none) else none) else none)
def fX10_back_L36    (k36 : (Int32 × hMem) → Option (Int32 × hMem)) (s : Int32 × hMem) : Option (Int32 × hMem) := if 3 ≤ s.1 then (h_lp (fX10_back_L61) h_FU (0, s.2)) else (if h_ib s.1 79 then (if h_ib s.1 3 then (k36 (s.1 + 1, h_up s.2 1 s.1.toNatClampNeg (s.2 12 s.1.toNatClampNeg))) else none) else none)
def fX10_back  (M : hMem) : Option (Int32 × hMem) := if (M 0 16) = 0 then (some ((-3), M)) else (h_lp (fX10_back_L36) h_FU (0, h_up (h_up (h_up M 0 3 (M 0 17)) 0 8 ((h_up M 0 3 (M 0 17)) 0 18)) 0 15 ((h_up (h_up M 0 3 (M 0 17)) 0 8 ((h_up M 0 3 (M 0 17)) 0 18)) 0 19)))
def fX10_sheet_L70  (v1 : Int32)  (k70 : (Int32 × hMem) → Option (Int32 × hMem)) (s : Int32 × hMem) : Option (Int32 × hMem) := if 40 ≤ s.1 then (some (1, s.2)) else (if h_ib ((40 * v1) + s.1) 160 then (k70 (s.1 + 1, h_up s.2 15 ((40 * v1) + s.1).toNatClampNeg 0)) else none)
def fX10_sheet_L44  (v1 : Int32) (v2 : Int32) (v3 : Int32) (M : hMem) : Option (Int32 × hMem) := if h_ib v1 4 then (if v2 = (-1) then (if h_ib v1 4 then (h_lp (fX10_sheet_L70 v1) h_FU (0, h_up (h_up M 13 v1.toNatClampNeg v2) 14 v1.toNatClampNeg 0)) else none) else (if h_ib v1 4 then (h_lp (fX10_sheet_L70 v1) h_FU (0, h_up (h_up M 13 v1.toNatClampNeg v2) 14 v1.toNatClampNeg v3)) else none)) else none
def fX10_sheet_L32  (v1 : Int32) (v2 : Int32) (v3 : Int32) (M : hMem) : Option (Int32 × hMem) := if v2 = (-1) then (fX10_sheet_L44 v1 v2 v3 M) else (if 0 ≤ v3 then (fX10_sheet_L44 v1 v2 v3 M) else (some ((-14), M)))
def fX10_sheet (a1 : Int32) (a2 : Int32) (a3 : Int32) (M : hMem) : Option (Int32 × hMem) := if (fX10_in a1 0 3 M) = 0 then (some ((-2), M)) else (if (fX10_in a2 (-1) 2 M) = 0 then (some ((-2), M)) else (if a2 = (-1) then (fX10_sheet_L32 a1 a2 a3 M) else (if a3 ≤ 40 then (fX10_sheet_L32 a1 a2 a3 M) else (some ((-2), M)))))
def fX10_cell (a1 : Int32) (a2 : Int32) (a3 : Int32) (M : hMem) : Option (Int32 × hMem) := if (fX10_in a1 0 3 M) = 0 then (some ((-2), M)) else (if h_ib a1 4 then (if (M 13 a1.toNatClampNeg) = (-1) then (some ((-11), M)) else (if h_ib a1 4 then (if (fX10_in a2 0 ((M 14 a1.toNatClampNeg) - 1) M) = 0 then (some ((-12), M)) else (if h_ib a1 4 then (if (M 13 a1.toNatClampNeg) = 0 then (if h_ib ((40 * a1) + a2) 160 then (some (1, h_up M 15 ((40 * a1) + a2).toNatClampNeg a3.toInt8.toInt32)) else none) else (if h_ib a1 4 then (if (M 13 a1.toNatClampNeg) = 1 then (if h_ib ((40 * a1) + a2) 160 then (some (1, h_up M 15 ((40 * a1) + a2).toNatClampNeg a3.toInt16.toInt32)) else none) else (if h_ib ((40 * a1) + a2) 160 then (some (1, h_up M 15 ((40 * a1) + a2).toNatClampNeg a3)) else none)) else none)) else none)) else none)) else none)
def fX10_copy_L173 (k147 : (Int32 × hMem) → Option (Int32 × hMem)) (v5 : Int32) (v6 : Int32) (v7 : Int32) (v8 : Int32) (t0 : Int32) (M : hMem) : Option (Int32 × hMem) := if h_ib (v6 + t0) 160 then (if h_ib (v7 + t0) 160 then (k147 (v8 + 1, h_up M 15 (v7 + t0).toNatClampNeg (M 15 (v6 + t0).toNatClampNeg))) else none) else none
def fX10_copy_L147  (v5 : Int32) (v6 : Int32) (v7 : Int32)  (k147 : (Int32 × hMem) → Option (Int32 × hMem)) (s : Int32 × hMem) : Option (Int32 × hMem) := if v5 ≤ s.1 then (some (v5, s.2)) else (if v7 ≤ v6 then (fX10_copy_L173 k147 v5 v6 v7 s.1 s.1 s.2) else (fX10_copy_L173 k147 v5 v6 v7 s.1 ((v5 - 1) - s.1) s.2))
def fX10_copy (a1 : Int32) (a2 : Int32) (a3 : Int32) (a4 : Int32) (a5 : Int32) (M : hMem) : Option (Int32 × hMem) := if (fX10_in a1 0 3 M) = 0 then (some ((-2), M)) else (if (fX10_in a3 0 3 M) = 0 then (some ((-2), M)) else (if h_ib a1 4 then (if (M 13 a1.toNatClampNeg) = (-1) then (some ((-11), M)) else (if h_ib a3 4 then (if (M 13 a3.toNatClampNeg) = (-1) then (some ((-11), M)) else (if h_ib a1 4 then (if h_ib a3 4 then (if (M 13 a1.toNatClampNeg) = (M 13 a3.toNatClampNeg) then (if a5 < 0 then (some ((-12), M)) else (if a2 < 0 then (some ((-12), M)) else (if a4 < 0 then (some ((-12), M)) else (if h_ib a1 4 then (if (M 14 a1.toNatClampNeg) < a2 then (some ((-12), M)) else (if h_ib a3 4 then (if (M 14 a3.toNatClampNeg) < a4 then (some ((-12), M)) else (if h_ib a1 4 then (if ((M 14 a1.toNatClampNeg) - a2) < a5 then (some ((-12), M)) else (if h_ib a3 4 then (if a5 ≤ ((M 14 a3.toNatClampNeg) - a4) then (h_lp (fX10_copy_L147 a5 ((40 * a1) + a2) ((40 * a3) + a4)) h_FU (0, M)) else (some ((-12), M))) else none)) else none)) else none)) else none)))) else (some ((-13), M))) else none) else none)) else none)) else none))
def fX10_gustsBy_L64  (v1 : Int32) (v3 : Int32) (v4 : Int32)  (k64 : (Int32 × Int32 × hMem) → Option (Int32 × hMem)) (s : Int32 × Int32 × hMem) : Option (Int32 × hMem) := if v4 ≤ s.2.1 then (some (s.1, s.2.2)) else (if v3 < 0 then (some ((-12), s.2.2)) else (if (v3 + (3 * s.2.1)) < v3 then (some ((-12), s.2.2)) else (if h_ib v1 4 then (if (v3 + (3 * s.2.1)) ≤ ((s.2.2 14 v1.toNatClampNeg) - 3) then (if h_ib ((40 * v1) + (v3 + (3 * s.2.1))) 160 then (if h_ib (((40 * v1) + (v3 + (3 * s.2.1))) + 1) 160 then (if h_ib (((40 * v1) + (v3 + (3 * s.2.1))) + 2) 160 then ((fX10_blow (s.2.2 15 ((40 * v1) + (v3 + (3 * s.2.1))).toNatClampNeg) (s.2.2 15 (((40 * v1) + (v3 + (3 * s.2.1))) + 1).toNatClampNeg) (s.2.2 15 (((40 * v1) + (v3 + (3 * s.2.1))) + 2).toNatClampNeg) s.2.2).bind fun q142 => if q142.1 < 0 then (k64 (s.1 + 0, s.2.1 + 1, q142.2)) else (k64 (s.1 + 1, s.2.1 + 1, q142.2))) else none) else none) else none) else (some ((-12), s.2.2))) else none)))
def fX10_gustsBy (a1 : Int32) (a2 : Int32) (a3 : Int32) (a4 : Int32) (M : hMem) : Option (Int32 × hMem) := if (fX10_in a1 0 3 M) = 0 then (some ((-2), M)) else (if (fX10_in a2 0 2 M) = 0 then (some ((-2), M)) else (if (fX10_in a4 0 13 M) = 0 then (some ((-2), M)) else (if h_ib a1 4 then (if (M 13 a1.toNatClampNeg) = (-1) then (some ((-11), M)) else (if h_ib a1 4 then (if (M 13 a1.toNatClampNeg) = a2 then (h_lp (fX10_gustsBy_L64 a1 a3 a4) h_FU (0, 0, M)) else (some ((-13), M))) else none)) else none)))
def fX10_isUnder_L19  (v0 : Int32) (v1 : Int32) (M : hMem) : Int32 := if v1 = 2 then (if v0 = 4 then 1 else 0) else 0
def fX10_isUnder (a0 : Int32) (a1 : Int32) (M : hMem) : Int32 := if a1 = 0 then 1 else (if a0 = a1 then 1 else (if a1 = 1 then (if a0 = 3 then 1 else (fX10_isUnder_L19 a0 a1 M)) else (fX10_isUnder_L19 a0 a1 M)))
def fX10_taken_L55  (v1 : Int32) (v2 : Int32) (M : hMem) : Option Int32 := if v2 = 6 then ((fX10_has 1 v1 M).bind fun q69 => if q69 = 0 then (some 0) else (some 1)) else (some (-13))
def fX10_taken (a1 : Int32) (a2 : Int32) (M : hMem) : Option Int32 := if (fX10_in a2 0 6 M) = 0 then (some (-2)) else (if (fX10_in a1 0 35 M) = 0 then (some (-12)) else (if 32 ≤ a1 then (if (a1 - 32) < (M 0 3) then (if 6 ≤ a2 then (some (-13)) else (if h_ib (a1 - 32) 4 then (if (fX10_isUnder (M 4 (a1 - 32).toNatClampNeg) a2 M) = 0 then (some (-13)) else (some (a1 - 32))) else none)) else (some (-11))) else ((fX10_has 1 a1 M).bind fun q35 => if q35 = 0 then ((fX10_has 2 a1 M).bind fun q44 => if q44 = 0 then (some (-11)) else (fX10_taken_L55 a1 a2 M)) else (fX10_taken_L55 a1 a2 M))))
end
section
/-! ===== Int32 by its bits: bt x i ===== -/
def bt (x : Int32) (i : Nat) : Bool := x.toBitVec.getLsbD i
theorem b_ext {x y : Int32} (h : ∀ i, i < 32 → bt x i = bt y i) : x = y := Int32.toBitVec_inj.mp (BitVec.eq_of_getLsbD_eq (fun i hi => h i hi))
theorem b_or (x y : Int32) (i : Nat) : bt (x ||| y) i = (bt x i || bt y i) := by unfold bt; rw [Int32.toBitVec_or, BitVec.getLsbD_or]
theorem b_and (x y : Int32) (i : Nat) : bt (x &&& y) i = (bt x i && bt y i) := by unfold bt; rw [Int32.toBitVec_and, BitVec.getLsbD_and]
theorem b_xor (x y : Int32) (i : Nat) : bt (x ^^^ y) i = (bt x i ^^ bt y i) := by unfold bt; rw [Int32.toBitVec_xor, BitVec.getLsbD_xor]
theorem b_big {x : Int32} {i : Nat} (h : 32 ≤ i) : bt x i = false := BitVec.getLsbD_of_ge _ _ h
theorem b_255 (i : Nat) : bt 255 i = decide (i < 8) := by
  rcases Nat.lt_or_ge i 32 with h | h
  · exact (by decide +kernel : ∀ i, i < 32 → bt 255 i = decide (i < 8)) i h
  · rw [b_big h, decide_eq_false (by omega)]
theorem b_65535 (i : Nat) : bt 65535 i = decide (i < 16) := by
  rcases Nat.lt_or_ge i 32 with h | h
  · exact (by decide +kernel : ∀ i, i < 32 → bt 65535 i = decide (i < 16)) i h
  · rw [b_big h, decide_eq_false (by omega)]
theorem b_m1 : ∀ i, i < 32 → bt (-1) i = true := by decide +kernel
theorem b_0 (i : Nat) : bt 0 i = false := BitVec.getLsbD_zero
theorem s_l : ∀ n, n < 32 → ((nI n &&& 31).toBitVec.smod 32).toNat = n := by decide +kernel
theorem s_u : ∀ n, n < 32 → (((nI n).toUInt32 &&& Int32.toUInt32 31).toBitVec % 32).toNat = n := by decide +kernel
theorem b_shl (n : Nat) (hn : n < 32) (x : Int32) {i : Nat} (hi : i < 32) : bt (x <<< (nI n &&& 31)) i = (decide (n ≤ i) && bt x (i - n)) := by
  unfold bt
  rw [Int32.toBitVec_shiftLeft]
  show (x.toBitVec <<< ((nI n &&& 31).toBitVec.smod 32).toNat).getLsbD i = _
  rw [s_l n hn, BitVec.getLsbD_shiftLeft]
  rcases Nat.lt_or_ge i n with h | h
  · simp [h, Nat.not_le.mpr h]
  · simp [hi, h, Nat.not_lt.mpr h]
theorem b_ushr (n : Nat) (hn : n < 32) (x : Int32) (i : Nat) : bt ((x.toUInt32 >>> ((nI n).toUInt32 &&& Int32.toUInt32 31)).toInt32) i = bt x (n + i) := by
  show (x.toUInt32 >>> ((nI n).toUInt32 &&& Int32.toUInt32 31)).toBitVec.getLsbD i = x.toUInt32.toBitVec.getLsbD (n + i)
  rw [UInt32.toBitVec_shiftRight]
  show (x.toUInt32.toBitVec >>> (((nI n).toUInt32 &&& Int32.toUInt32 31).toBitVec % 32).toNat).getLsbD i = _
  rw [s_u n hn, BitVec.getLsbD_ushiftRight]
theorem b_sshr (n : Nat) (hn : n < 32) (x : Int32) {i : Nat} (hi : i < 32) : bt (x >>> (nI n &&& 31)) i = if n + i < 32 then bt x (n + i) else bt x 31 := by
  unfold bt
  rw [Int32.toBitVec_shiftRight]
  show (x.toBitVec.sshiftRight ((nI n &&& 31).toBitVec.smod 32).toNat).getLsbD i = _
  rw [s_l n hn, BitVec.getLsbD_sshiftRight, BitVec.msb_eq_getLsbD_last]
  simp [hi]
theorem b_shl8 (x : Int32) {i : Nat} (hi : i < 32) : bt (x <<< ((8 : Int32) &&& 31)) i = (decide (8 ≤ i) && bt x (i - 8)) := b_shl 8 (by omega) x hi
theorem b_shl16 (x : Int32) {i : Nat} (hi : i < 32) : bt (x <<< ((16 : Int32) &&& 31)) i = (decide (16 ≤ i) && bt x (i - 16)) := b_shl 16 (by omega) x hi
theorem b_shl24 (x : Int32) {i : Nat} (hi : i < 32) : bt (x <<< ((24 : Int32) &&& 31)) i = (decide (24 ≤ i) && bt x (i - 24)) := b_shl 24 (by omega) x hi
theorem b_sshr8 (x : Int32) {i : Nat} (hi : i < 32) : bt (x >>> ((8 : Int32) &&& 31)) i = if 8 + i < 32 then bt x (8 + i) else bt x 31 := b_sshr 8 (by omega) x hi
/-! ===== order of ints, in all its forms, and through longs ===== -/
theorem fa_lt (a b : Int32) : a < b ↔ a.toInt < b.toInt := Int32.lt_iff_toInt_lt
theorem fa_le (a b : Int32) : a ≤ b ↔ a.toInt ≤ b.toInt := Int32.le_iff_toInt_le
theorem fa_eq (a b : Int32) : a = b ↔ a.toInt = b.toInt := Int32.toInt_inj.symm
theorem fa_lt64 (a b : Int64) : a < b ↔ a.toInt < b.toInt := Int64.lt_iff_toInt_lt
theorem fa_le64 (a b : Int64) : a ≤ b ↔ a.toInt ≤ b.toInt := Int64.le_iff_toInt_le
theorem fa_eq64 (a b : Int64) : a = b ↔ a.toInt = b.toInt := Int64.toInt_inj.symm
/-- a comparison of two ints taken as longs -/
theorem fa_wide_lt (a b : Int32) : a.toInt64 < b.toInt64 ↔ a < b := by rw [fa_lt64, fa_lt, Int32.toInt_toInt64, Int32.toInt_toInt64]
theorem fa_wide_le (a b : Int32) : a.toInt64 ≤ b.toInt64 ↔ a ≤ b := by rw [fa_le64, fa_le, Int32.toInt_toInt64, Int32.toInt_toInt64]
theorem fa_wide_eq (a b : Int32) : a.toInt64 = b.toInt64 ↔ a = b := by rw [fa_eq64, fa_eq, Int32.toInt_toInt64, Int32.toInt_toInt64]
/-- one strict comparison gives all the others -/
theorem fa_of_lt {a b : Int32} (h : a < b) : a ≤ b ∧ ¬ b ≤ a ∧ ¬ b < a ∧ a ≠ b ∧ b ≠ a := by
  rw [fa_lt] at h
  refine ⟨?_, ?_, ?_, ?_, ?_⟩
  · rw [fa_le]; omega
  · rw [fa_le]; omega
  · rw [fa_lt]; omega
  · intro e; rw [fa_eq] at e; omega
  · intro e; rw [fa_eq] at e; omega
theorem fa_of_nlt {a b : Int32} (h : ¬ a < b) : b ≤ a := by
  rw [fa_lt] at h
  rw [fa_le]
  omega
theorem fa_of_nle {a b : Int32} (h : ¬ a ≤ b) : b < a := by
  rw [fa_le] at h
  rw [fa_lt]
  omega
theorem fa_le_ne {a b : Int32} (h : a ≤ b) (h2 : a ≠ b) : a < b := by
  rw [fa_le] at h
  rw [fa_lt]
  have h3 : a.toInt ≠ b.toInt := fun e => h2 ((fa_eq a b).mpr e)
  omega
theorem fa_three (a b : Int32) : a < b ∨ a = b ∨ b < a := by
  rw [fa_lt, fa_lt, fa_eq]
  omega
theorem fa_trans {a b c : Int32} (h : a < b) (h2 : b ≤ c) : a < c := by
  rw [fa_lt] at *
  rw [fa_le] at h2
  omega
/-! ===== small literals as numbers ===== -/
theorem fa_lit (n : Nat) : (OfNat.ofNat n : Int32) = nI n := rfl
theorem fa_litL (n : Nat) : (OfNat.ofNat n : Int64) = lN n := rfl
/-! ===== bits of a number: 'or', masks, one bit ===== -/
theorem fa_and (a b : Nat) : nI a &&& nI b = nI (a &&& b) := by
  apply Int32.toBitVec_inj.1
  show BitVec.ofNat 32 a &&& BitVec.ofNat 32 b = BitVec.ofNat 32 (a &&& b)
  apply BitVec.eq_of_getLsbD_eq
  intro i hi
  simp [hi]
theorem fa_or (a b : Nat) : nI a ||| nI b = nI (a ||| b) := by
  apply Int32.toBitVec_inj.1
  show BitVec.ofNat 32 a ||| BitVec.ofNat 32 b = BitVec.ofNat 32 (a ||| b)
  apply BitVec.eq_of_getLsbD_eq
  intro i hi
  simp [hi]
/-- a remainder by a power of two, as a mask -/
theorem fa_mask (n k : Nat) : nI n &&& nI (2 ^ k - 1) = nI (n % 2 ^ k) := by rw [fa_and, Nat.and_two_pow_sub_one_eq_mod]
/-- 'or' of a high part and a low one that don't meet is their sum -/
theorem fa_or_sum {a k : Nat} (b : Nat) (h : a < 2 ^ k) : nI (2 ^ k * b) ||| nI a = nI (2 ^ k * b + a) := by rw [fa_or, Nat.two_pow_add_eq_or_of_lt h]
/-- one bit, by 'and' with a power of two -/
theorem fa_bit {n j : Nat} (hj : j < 31) : nI n &&& nI (2 ^ j) = 0 ↔ n.testBit j = false := by
  have h2 : (2 : Nat) ^ j < 2 ^ 31 := Nat.pow_lt_pow_right (by decide) hj
  have hle : n &&& 2 ^ j ≤ 2 ^ j := Nat.and_le_right
  have e : n &&& 2 ^ j = 0 ↔ n.testBit j = false := by
    constructor
    · intro h
      have h1 : (n &&& 2 ^ j).testBit j = false := by rw [h]; simp
      rw [Nat.testBit_and] at h1
      first | simpa using h1 | simpa [Nat.testBit_two_pow_self] using h1 | simpa [Nat.testBit_two_pow] using h1
    · intro h
      apply Nat.eq_of_testBit_eq
      intro i
      rw [Nat.testBit_and]
      by_cases hi : j = i
      · subst hi; simp [h]
      · first | (simp [Nat.testBit_two_pow, hi]; done) | (simp [Nat.testBit_two_pow_of_ne hi]; done)
  rw [fa_and]
  constructor
  · intro h
    apply e.mp
    rcases Nat.eq_zero_or_pos (n &&& 2 ^ j) with z | z
    · exact z
    · exact absurd h (nI_ne0 z (Nat.lt_of_le_of_lt hle h2))
  · intro h
    rw [e.mpr h]; exact nI_0
/-- a remainder by a power of two of a number that isn't negative, as Java divides -/
theorem fa_rem {a k : Nat} (ha : a < 2 ^ 31) (hk : k < 31) : nI a - nI a / nI (2 ^ k) * nI (2 ^ k) = nI (a % 2 ^ k) := pk_rem ha (Nat.two_pow_pos k) (Nat.pow_lt_pow_right (by decide) hk)
/-! ===== cuts to a byte, a short ===== -/
theorem fa_byte_xor (x y : Int32) : (x ^^^ y).toInt8 = x.toInt8 ^^^ y.toInt8 := by
  apply Int8.toBitVec_inj.1
  apply BitVec.eq_of_getLsbD_eq
  intro i hi
  first | (simp [hi]; done) | (simp [hi, BitVec.getLsbD_setWidth, BitVec.getLsbD_signExtend]; done)
theorem fa_short_xor (x y : Int32) : (x ^^^ y).toInt16 = x.toInt16 ^^^ y.toInt16 := by
  apply Int16.toBitVec_inj.1
  apply BitVec.eq_of_getLsbD_eq
  intro i hi
  first | (simp [hi]; done) | (simp [hi, BitVec.getLsbD_setWidth, BitVec.getLsbD_signExtend]; done)
/-- the cut to a byte sees the low byte alone -/
theorem fa_byte_low (x : Int32) : (x &&& 255).toInt8 = x.toInt8 := by
  apply Int8.toBitVec_inj.1
  apply BitVec.eq_of_getLsbD_eq
  intro i hi
  have h2 : (255 : Int32).toBitVec.getLsbD i = true := by
    have : ∀ j : Fin 8, (255 : Int32).toBitVec.getLsbD j.val = true := by decide +kernel
    exact this ⟨i, hi⟩
  have h4 : (x &&& 255).toBitVec.getLsbD i = x.toBitVec.getLsbD i := by
    show (x.toBitVec &&& (255 : Int32).toBitVec).getLsbD i = _
    rw [BitVec.getLsbD_and, h2, Bool.and_true]
  have h3 : i < 32 := by omega
  first
    | (show (((x &&& 255).toBitVec).signExtend 8).getLsbD i = (x.toBitVec.signExtend 8).getLsbD i; rw [BitVec.getLsbD_signExtend, BitVec.getLsbD_signExtend, if_pos h3, if_pos h3, h4])
    | (show (((x &&& 255).toBitVec).setWidth 8).getLsbD i = (x.toBitVec.setWidth 8).getLsbD i; rw [BitVec.getLsbD_setWidth, BitVec.getLsbD_setWidth, h4])
    | (simp [hi, h3, h4]; done)
theorem fa_short_low (x : Int32) : (x &&& 65535).toInt16 = x.toInt16 := by
  apply Int16.toBitVec_inj.1
  apply BitVec.eq_of_getLsbD_eq
  intro i hi
  have h2 : (65535 : Int32).toBitVec.getLsbD i = true := by
    have : ∀ j : Fin 16, (65535 : Int32).toBitVec.getLsbD j.val = true := by decide +kernel
    exact this ⟨i, hi⟩
  have h4 : (x &&& 65535).toBitVec.getLsbD i = x.toBitVec.getLsbD i := by
    show (x.toBitVec &&& (65535 : Int32).toBitVec).getLsbD i = _
    rw [BitVec.getLsbD_and, h2, Bool.and_true]
  have h3 : i < 32 := by omega
  first
    | (show (((x &&& 65535).toBitVec).signExtend 16).getLsbD i = (x.toBitVec.signExtend 16).getLsbD i; rw [BitVec.getLsbD_signExtend, BitVec.getLsbD_signExtend, if_pos h3, if_pos h3, h4])
    | (show (((x &&& 65535).toBitVec).setWidth 16).getLsbD i = (x.toBitVec.setWidth 16).getLsbD i; rw [BitVec.getLsbD_setWidth, BitVec.getLsbD_setWidth, h4])
    | (simp [hi, h3, h4]; done)
/-- a small number is its own byte, its own short -/
theorem fa_byte_small {n : Nat} (h : n < 128) : (nI n).toInt8.toInt32 = nI n := by
  have : ∀ j : Fin 128, (nI j.val).toInt8.toInt32 = nI j.val := by decide +kernel
  exact this ⟨n, h⟩
/-! ===== absolute difference ===== -/
theorem fa_absdiff {a b : Nat} (ha : a < 2 ^ 31) (hb : b < 2 ^ 31) : (if nI a < nI b then nI b - nI a else nI a - nI b) = nI (if a < b then b - a else a - b) := by
  by_cases h : a < b
  · rw [if_pos (nI_lt h hb), if_pos h]
    exact pk_sub (Nat.le_of_lt h)
  · rw [if_neg (nI_nlt (Nat.le_of_not_lt h) ha), if_neg h]
    exact pk_sub (Nat.le_of_not_lt h)
/-! ===== an array behind i stores, a conditional store, a row copied ===== -/
/-- f where k < i, what stood there else -/
def fa_fill {α : Type} (f g : Nat → α) (i : Nat) : Nat → α := fun k => if k < i then f k else g k
theorem fa_fill_0 {α : Type} (f g : Nat → α) : fa_fill f g 0 = g := funext fun k => if_neg (Nat.not_lt_zero k)
theorem fa_fill_in {α : Type} {f g : Nat → α} {i k : Nat} (h : k < i) : fa_fill f g i k = f k := if_pos h
theorem fa_fill_out {α : Type} {f g : Nat → α} {i k : Nat} (h : i ≤ k) : fa_fill f g i k = g k := if_neg (Nat.not_lt.mpr h)
theorem fa_fill_succ (f g : Nat → Int32) (i : Nat) : upd (fa_fill f g i) i (f i) = fa_fill f g (i + 1) := by
  funext k
  by_cases e : k = i
  · subst e
    rw [pk_us]
    exact (if_pos (Nat.lt_succ_self k)).symm
  · rw [pk_un e]
    by_cases h : k < i
    · rw [fa_fill_in h, fa_fill_in (Nat.lt_succ_of_lt h)]
    · rw [fa_fill_out (Nat.le_of_not_lt h), fa_fill_out (by omega)]
/-- a store that changes nothing -/
theorem fa_upd_same {f : Nat → Int32} {i : Nat} {x : Int32} (h : f i = x) : upd f i x = f := by
  funext k
  by_cases e : k = i
  · subst e
    rw [pk_us, h]
  · rw [pk_un e]
/-- a store under a condition, told as one -/
theorem fa_upd_if (c : Prop) [Decidable c] (f : Nat → Int32) (i : Nat) (x : Int32) : (if c then upd f i x else f) = upd f i (if c then x else f i) := by
  by_cases h : c
  · rw [if_pos h, if_pos h]
  · rw [if_neg h, if_neg h, fa_upd_same rfl]
/-- two stores at one place, at two -/
theorem fa_upd_twice (f : Nat → Int32) (i : Nat) (x y : Int32) : upd (upd f i x) i y = upd f i y := by
  funext k
  by_cases e : k = i
  · subst e
    rw [pk_us, pk_us]
  · rw [pk_un e, pk_un e, pk_un e]
theorem fa_upd_swap (f : Nat → Int32) {i j : Nat} (h : i ≠ j) (x y : Int32) : upd (upd f i x) j y = upd (upd f j y) i x := by
  funext k
  by_cases e : k = i
  · subst e
    rw [pk_un h, pk_us, pk_us]
  · by_cases e2 : k = j
    · subst e2
      rw [pk_us, pk_un e, pk_us]
    · rw [pk_un e2, pk_un e, pk_un e, pk_un e2]
/-! ===== the first index with a property; a count ===== -/
/-- the first k < n with p k, n if there is none -/
def fa_first (p : Nat → Bool) : Nat → Nat
  | 0 => 0
  | n + 1 => if fa_first p n < n then fa_first p n else if p n then n else n + 1
theorem fa_first_le (p : Nat → Bool) : ∀ n, fa_first p n ≤ n
  | 0 => Nat.le_refl 0
  | n + 1 => by
    have ih := fa_first_le p n
    unfold fa_first
    split
    · omega
    · split
      · omega
      · omega
theorem fa_first_no (p : Nat → Bool) : ∀ n k, k < fa_first p n → p k = false
  | 0, k, h => absurd h (Nat.not_lt_zero k)
  | n + 1, k, h => by
    have ih := fa_first_no p n
    have hl := fa_first_le p n
    unfold fa_first at h
    split at h
    · exact ih k h
    · rename_i h1
      split at h
      · exact ih k (by omega)
      · rename_i h2
        by_cases e : k = n
        · subst e
          exact Bool.eq_false_iff.mpr h2
        · exact ih k (by omega)
theorem fa_first_yes (p : Nat → Bool) : ∀ n, fa_first p n < n → p (fa_first p n) = true
  | 0, h => absurd h (Nat.not_lt_zero _)
  | n + 1, h => by
    have ih := fa_first_yes p n
    have hl := fa_first_le p n
    unfold fa_first at h ⊢
    split at h
    · rename_i h1
      rw [if_pos h1]
      exact ih h1
    · rename_i h1
      rw [if_neg h1]
      split at h
      · rename_i h2
        rw [if_pos h2]
        exact h2
      · omega
/-- how many k < n have p k -/
def fa_cnt (p : Nat → Bool) : Nat → Nat
  | 0 => 0
  | n + 1 => fa_cnt p n + if p n then 1 else 0
theorem fa_cnt_le (p : Nat → Bool) : ∀ n, fa_cnt p n ≤ n
  | 0 => Nat.le_refl 0
  | n + 1 => by
    have ih := fa_cnt_le p n
    unfold fa_cnt
    split
    · omega
    · omega
theorem fa_cnt_yes {p : Nat → Bool} {n : Nat} (h : p n = true) : fa_cnt p (n + 1) = fa_cnt p n + 1 := by rw [fa_cnt, if_pos h]
theorem fa_cnt_no {p : Nat → Bool} {n : Nat} (h : p n = false) : fa_cnt p (n + 1) = fa_cnt p n := by rw [fa_cnt, if_neg (by rw [h]; decide)]; rfl
theorem fa_cnt_cong {p q : Nat → Bool} : ∀ {n : Nat}, (∀ k, k < n → p k = q k) → fa_cnt p n = fa_cnt q n
  | 0, _ => rfl
  | n + 1, h => by rw [fa_cnt, fa_cnt, fa_cnt_cong (fun k hk => h k (Nat.lt_succ_of_lt hk)), h n (Nat.lt_succ_self n)]
/-! ===== an answer carried into a post; a branch on a boolean answer ===== -/
theorem fa_post {α : Type} {P : α → Prop} {x y : α} (h : x = y) (hp : P y) : P x := h ▸ hp
theorem fa_post2 {α β : Type} {P : α → β → Prop} {x y : α} {u v : β} (h : x = y) (h2 : u = v) (hp : P y v) : P x u := h ▸ h2 ▸ hp
theorem fa_bool {r : Int32} {b : Bool} (h : r = if b then 1 else 0) : (r = 0 ↔ b = false) ∧ (¬ r = 0 ↔ b = true) := by
  subst h
  cases b
  · exact ⟨⟨fun _ => rfl, fun _ => rfl⟩, ⟨fun h => absurd rfl h, fun h => absurd h (by decide)⟩⟩
  · exact ⟨⟨fun h => absurd h (by decide), fun h => absurd h (by decide)⟩, ⟨fun _ => rfl, fun _ => by decide⟩⟩
/-- a boolean's narrowing changes nothing -/
theorem fa_bool_and {r : Int32} (h : r = 0 ∨ r = 1) : r &&& 1 = r := by
  rcases h with rfl | rfl
  · decide
  · decide
theorem fa_bool_prop {c : Prop} [Decidable c] {r : Int32} (h : r = if c then 1 else 0) : (r = 0 ↔ ¬ c) ∧ (¬ r = 0 ↔ c) := by
  subst h
  by_cases hc : c
  · rw [if_pos hc]
    exact ⟨⟨fun h => absurd h (by decide), fun h => absurd hc h⟩, ⟨fun _ => hc, fun _ => by decide⟩⟩
  · rw [if_neg hc]
    exact ⟨⟨fun _ => hc, fun _ => rfl⟩, ⟨fun h => absurd rfl h, fun h => absurd h hc⟩⟩
/-! ===== drawers: more things than places ===== -/
theorem fb_holes : ∀ (m n : Nat) (f : Nat → Nat), (∀ i, i < n → f i < m) → (∀ i j, i < j → j < n → f i ≠ f j) → n ≤ m := by
  intro m
  induction m with
  | zero =>
    intro n f h1 _
    rcases Nat.eq_zero_or_pos n with h | h
    · omega
    · exact absurd (h1 0 h) (Nat.not_lt_zero _)
  | succ m ih =>
    intro n f h1 h2
    by_cases hx : ∃ i, i < n ∧ f i = m
    · obtain ⟨a, ha, hfa⟩ := hx
      have hg := ih (n - 1) (fun i => if i < a then f i else f (i + 1)) (by
        intro i hi
        by_cases q : i < a
        · simp only [if_pos q]
          have b1 := h1 i (by omega)
          have b2 := h2 i a q ha
          omega
        · simp only [if_neg q]
          have b1 := h1 (i + 1) (by omega)
          have b2 := h2 a (i + 1) (by omega) (by omega)
          omega) (by
        intro i j hij hj
        by_cases q : i < a
        · by_cases r : j < a
          · simp only [if_pos q, if_pos r]
            exact h2 i j hij (by omega)
          · simp only [if_pos q, if_neg r]
            exact h2 i (j + 1) (by omega) (by omega)
        · have r : ¬ j < a := by omega
          simp only [if_neg q, if_neg r]
          exact h2 (i + 1) (j + 1) (by omega) (by omega))
      omega
    · have hg := ih n f (fun i hi => by
        have b1 := h1 i hi
        have b2 : f i ≠ m := fun e => hx ⟨i, hi, e⟩
        omega) h2
      omega
/-- two of them in one place -/
theorem fb_twice {m n : Nat} {f : Nat → Nat} (h : ∀ i, i < n → f i < m) (hm : m < n) : ∃ i j, i < j ∧ j < n ∧ f i = f j := by
  refine Classical.byContradiction fun hx => ?_
  have := fb_holes m n f h (fun i j hij hj e => hx ⟨i, j, hij, hj, e⟩)
  omega
/-- as many as places, none twice: each place is taken -/
theorem fb_onto {n : Nat} {f : Nat → Nat} (h : ∀ i, i < n → f i < n) (h2 : ∀ i j, i < j → j < n → f i ≠ f j) {y : Nat} (hy : y < n) : ∃ i, i < n ∧ f i = y := by
  refine Classical.byContradiction fun hx => ?_
  have hne : ∀ i, i < n → f i ≠ y := fun i hi e => hx ⟨i, hi, e⟩
  have := fb_holes (n - 1) n (fun i => if f i < y then f i else f i - 1) (by
    intro i hi
    have b1 := h i hi
    have b2 := hne i hi
    by_cases q : f i < y
    · simp only [if_pos q]; omega
    · simp only [if_neg q]; omega) (by
    intro i j hij hj
    have b1 := hne i (by omega)
    have b2 := hne j hj
    have b3 := h2 i j hij hj
    by_cases q : f i < y
    · by_cases r : f j < y
      · simp only [if_pos q, if_pos r]; exact b3
      · simp only [if_pos q, if_neg r]; omega
    · by_cases r : f j < y
      · simp only [if_neg q, if_pos r]; omega
      · simp only [if_neg q, if_neg r]; omega)
  omega
/-! ===== how many places have a property ===== -/
def fb_ct (p : Nat → Bool) : Nat → Nat
  | 0 => 0
  | n + 1 => fb_ct p n + (if p n then 1 else 0)
theorem fb_ct_succ (p : Nat → Bool) (n : Nat) : fb_ct p (n + 1) = fb_ct p n + (if p n then 1 else 0) := rfl
theorem fb_ct_le (p : Nat → Bool) : ∀ n, fb_ct p n ≤ n
  | 0 => Nat.le_refl _
  | n + 1 => by
    have h := fb_ct_le p n
    rw [fb_ct_succ]
    split <;> omega
theorem fb_ct_step (p : Nat → Bool) (m : Nat) : ∀ n, fb_ct p m ≤ fb_ct p (m + n)
  | 0 => Nat.le_refl _
  | n + 1 => by
    have h := fb_ct_step p m n
    show fb_ct p m ≤ fb_ct p (m + n + 1)
    rw [fb_ct_succ]
    omega
theorem fb_ct_mono (p : Nat → Bool) {m n : Nat} (h : m ≤ n) : fb_ct p m ≤ fb_ct p n := by
  have := fb_ct_step p m (n - m)
  rwa [Nat.add_sub_cancel' h] at this
theorem fb_ct_cong {p q : Nat → Bool} : ∀ {n : Nat}, (∀ k, k < n → p k = q k) → fb_ct p n = fb_ct q n
  | 0, _ => rfl
  | n + 1, h => by
    rw [fb_ct_succ, fb_ct_succ, fb_ct_cong (fun k hk => h k (by omega)), h n (by omega)]
/-- one place changed -/
theorem fb_ct_out (p : Nat → Bool) (b : Bool) {i n : Nat} (h : n ≤ i) : fb_ct (fun k => if k = i then b else p k) n = fb_ct p n :=
  fb_ct_cong fun k hk => if_neg (by omega)
theorem fb_ct_upd (p : Nat → Bool) (b : Bool) {i : Nat} : ∀ {n : Nat}, i < n → fb_ct (fun k => if k = i then b else p k) n + (if p i then 1 else 0) = fb_ct p n + (if b then 1 else 0)
  | 0, h => absurd h (Nat.not_lt_zero i)
  | n + 1, h => by
    rw [fb_ct_succ, fb_ct_succ]
    rcases Nat.lt_or_ge i n with q | q
    · have := fb_ct_upd p b q
      have e : (if n = i then b else p n) = p n := if_neg (by omega)
      rw [e]
      omega
    · have e : i = n := by omega
      subst e
      rw [fb_ct_out p b (Nat.le_refl _)]
      simp only [if_true]
      omega
theorem fb_ct_sub {p q : Nat → Bool} : ∀ {n : Nat}, (∀ k, k < n → p k = true → q k = true) → fb_ct p n ≤ fb_ct q n
  | 0, _ => Nat.le_refl _
  | n + 1, h => by
    have h1 := fb_ct_sub (n := n) (p := p) (q := q) (fun k hk => h k (by omega))
    have h2 := h n (by omega)
    rw [fb_ct_succ, fb_ct_succ]
    cases hp : p n <;> cases hq : q n <;> simp_all <;> omega
theorem fb_ct_or {p q : Nat → Bool} : ∀ {n : Nat}, (∀ k, k < n → ¬ (p k = true ∧ q k = true)) → fb_ct (fun k => p k || q k) n = fb_ct p n + fb_ct q n
  | 0, _ => rfl
  | n + 1, h => by
    have h1 := fb_ct_or (n := n) (p := p) (q := q) (fun k hk => h k (by omega))
    have h2 := h n (by omega)
    rw [fb_ct_succ, fb_ct_succ, fb_ct_succ, h1]
    cases hp : p n <;> cases hq : q n <;> simp_all <;> omega
theorem fb_ct_not (p : Nat → Bool) : ∀ n, fb_ct p n + fb_ct (fun k => !p k) n = n
  | 0 => rfl
  | n + 1 => by
    have h := fb_ct_not p n
    rw [fb_ct_succ, fb_ct_succ]
    cases p n <;> simp <;> omega
theorem fb_ct_split (p : Nat → Bool) (m : Nat) : ∀ n, fb_ct p (m + n) = fb_ct p m + fb_ct (fun k => p (m + k)) n
  | 0 => rfl
  | n + 1 => by
    have h := fb_ct_split p m n
    show fb_ct p (m + n + 1) = _
    rw [fb_ct_succ, fb_ct_succ, h, Nat.add_assoc]
theorem fb_ct_zero {p : Nat → Bool} : ∀ {n : Nat}, fb_ct p n = 0 ↔ ∀ k, k < n → p k = false
  | 0 => ⟨fun _ k hk => absurd hk (Nat.not_lt_zero k), fun _ => rfl⟩
  | n + 1 => by
    have h := fb_ct_zero (p := p) (n := n)
    rw [fb_ct_succ]
    constructor
    · intro e k hk
      have e1 : fb_ct p n = 0 := by omega
      rcases Nat.lt_or_ge k n with q | q
      · exact h.mp e1 k q
      · have ek : k = n := by omega
        subst ek
        cases hp : p k
        · rfl
        · simp [hp] at e
    · intro a
      rw [h.mpr (fun k hk => a k (by omega)), a n (by omega)]
      rfl
theorem fb_ct_pos {p : Nat → Bool} {n : Nat} : 0 < fb_ct p n ↔ ∃ k, k < n ∧ p k = true := by
  constructor
  · intro h
    refine Classical.byContradiction fun hx => ?_
    have := fb_ct_zero.mpr (fun k hk => by
      cases hp : p k
      · rfl
      · exact absurd ⟨k, hk, hp⟩ hx : ∀ k, k < n → p k = false)
    omega
  · rintro ⟨k, hk, hp⟩
    rcases Nat.eq_zero_or_pos (fb_ct p n) with e | e
    · have := fb_ct_zero.mp e k hk
      rw [this] at hp
      cases hp
    · exact e
theorem fb_ct_all {p : Nat → Bool} {n : Nat} : fb_ct p n = n ↔ ∀ k, k < n → p k = true := by
  have h := fb_ct_not p n
  constructor
  · intro e k hk
    have z : fb_ct (fun k => !p k) n = 0 := by omega
    have := fb_ct_zero.mp z k hk
    cases hp : p k
    · simp [hp] at this
    · rfl
  · intro a
    have z : fb_ct (fun k => !p k) n = 0 := fb_ct_zero.mpr (fun k hk => by simp [a k hk])
    omega
/-- the k-th place with the property -/
theorem fb_ct_kth {p : Nat → Bool} {k : Nat} : ∀ {n : Nat}, k < fb_ct p n → ∃ i, i < n ∧ p i = true ∧ fb_ct p i = k
  | 0, h => absurd h (Nat.not_lt_zero k)
  | n + 1, h => by
    rcases Nat.lt_or_ge k (fb_ct p n) with q | q
    · obtain ⟨i, h1, h2⟩ := fb_ct_kth q
      exact ⟨i, by omega, h2⟩
    · rw [fb_ct_succ] at h
      cases hp : p n
      · simp [hp] at h; omega
      · simp [hp] at h
        exact ⟨n, by omega, hp, by omega⟩
theorem fb_ct_kth_one {p : Nat → Bool} {i j : Nat} (hi : p i = true) (hj : p j = true) (e : fb_ct p i = fb_ct p j) : i = j := by
  have key : ∀ a b : Nat, a < b → p a = true → fb_ct p a < fb_ct p b := by
    intro a b hab ha
    have h := fb_ct_mono p (show a + 1 ≤ b from hab)
    rw [fb_ct_succ, ha] at h
    simp at h
    omega
  rcases Nat.lt_trichotomy i j with q | q | q
  · have := key i j q hi; omega
  · exact q
  · have := key j i q hj; omega
/-! ===== sums over a range: one place changed, parts, bounds ===== -/
def fb_sm (f : Nat → Nat) : Nat → Nat
  | 0 => 0
  | n + 1 => fb_sm f n + f n
theorem fb_sm_succ (f : Nat → Nat) (n : Nat) : fb_sm f (n + 1) = fb_sm f n + f n := rfl
theorem fb_sm_cong {f g : Nat → Nat} : ∀ {n : Nat}, (∀ k, k < n → f k = g k) → fb_sm f n = fb_sm g n
  | 0, _ => rfl
  | n + 1, h => by rw [fb_sm_succ, fb_sm_succ, fb_sm_cong (fun k hk => h k (by omega)), h n (by omega)]
theorem fb_sm_out (f : Nat → Nat) (v : Nat) {i n : Nat} (h : n ≤ i) : fb_sm (fun k => if k = i then v else f k) n = fb_sm f n :=
  fb_sm_cong fun k hk => if_neg (by omega)
theorem fb_sm_upd (f : Nat → Nat) (v : Nat) {i : Nat} : ∀ {n : Nat}, i < n → fb_sm (fun k => if k = i then v else f k) n + f i = fb_sm f n + v
  | 0, h => absurd h (Nat.not_lt_zero i)
  | n + 1, h => by
    rw [fb_sm_succ, fb_sm_succ]
    rcases Nat.lt_or_ge i n with q | q
    · have := fb_sm_upd f v q
      have e : (if n = i then v else f n) = f n := if_neg (by omega)
      rw [e]
      omega
    · have e : i = n := by omega
      subst e
      rw [fb_sm_out f v (Nat.le_refl _)]
      simp only [if_true]
      omega
theorem fb_sm_add (f g : Nat → Nat) : ∀ n, fb_sm (fun k => f k + g k) n = fb_sm f n + fb_sm g n
  | 0 => rfl
  | n + 1 => by
    have h := fb_sm_add f g n
    rw [fb_sm_succ, fb_sm_succ, fb_sm_succ, h]
    omega
theorem fb_sm_le {f g : Nat → Nat} : ∀ {n : Nat}, (∀ k, k < n → f k ≤ g k) → fb_sm f n ≤ fb_sm g n
  | 0, _ => Nat.le_refl _
  | n + 1, h => by
    have h1 := fb_sm_le (n := n) (f := f) (g := g) (fun k hk => h k (by omega))
    have h2 := h n (by omega)
    rw [fb_sm_succ, fb_sm_succ]
    omega
theorem fb_sm_const (c : Nat) : ∀ n, fb_sm (fun _ => c) n = n * c
  | 0 => by rw [Nat.zero_mul]; rfl
  | n + 1 => by rw [fb_sm_succ, fb_sm_const c n, Nat.succ_mul]
theorem fb_sm_bound {f : Nat → Nat} {c n : Nat} (h : ∀ k, k < n → f k ≤ c) : fb_sm f n ≤ n * c := by
  rw [← fb_sm_const c n]
  exact fb_sm_le h
theorem fb_sm_mono (f : Nat → Nat) (m : Nat) : ∀ n, fb_sm f m ≤ fb_sm f (m + n)
  | 0 => Nat.le_refl _
  | n + 1 => by
    have h := fb_sm_mono f m n
    show fb_sm f m ≤ fb_sm f (m + n + 1)
    rw [fb_sm_succ]
    omega
theorem fb_sm_part (f : Nat → Nat) {i n : Nat} (h : i < n) : fb_sm f i + f i ≤ fb_sm f n := by
  have := fb_sm_mono f (i + 1) (n - (i + 1))
  rw [fb_sm_succ, show i + 1 + (n - (i + 1)) = n by omega] at this
  exact this
theorem fb_sm_split (f : Nat → Nat) (m : Nat) : ∀ n, fb_sm f (m + n) = fb_sm f m + fb_sm (fun k => f (m + k)) n
  | 0 => rfl
  | n + 1 => by
    have h := fb_sm_split f m n
    show fb_sm f (m + n + 1) = _
    rw [fb_sm_succ, fb_sm_succ, h, Nat.add_assoc]
theorem fb_sm_zero {f : Nat → Nat} {n : Nat} (h : fb_sm f n = 0) : ∀ k, k < n → f k = 0 := fun k hk => by
  have := fb_sm_part f hk
  omega
/-- the same over whole numbers -/
def fb_si (f : Nat → Int) : Nat → Int
  | 0 => 0
  | n + 1 => fb_si f n + f n
theorem fb_si_succ (f : Nat → Int) (n : Nat) : fb_si f (n + 1) = fb_si f n + f n := rfl
theorem fb_si_cong {f g : Nat → Int} : ∀ {n : Nat}, (∀ k, k < n → f k = g k) → fb_si f n = fb_si g n
  | 0, _ => rfl
  | n + 1, h => by rw [fb_si_succ, fb_si_succ, fb_si_cong (fun k hk => h k (by omega)), h n (by omega)]
theorem fb_si_out (f : Nat → Int) (v : Int) {i n : Nat} (h : n ≤ i) : fb_si (fun k => if k = i then v else f k) n = fb_si f n :=
  fb_si_cong fun k hk => if_neg (by omega)
theorem fb_si_upd (f : Nat → Int) (v : Int) {i : Nat} : ∀ {n : Nat}, i < n → fb_si (fun k => if k = i then v else f k) n = fb_si f n - f i + v
  | 0, h => absurd h (Nat.not_lt_zero i)
  | n + 1, h => by
    rw [fb_si_succ, fb_si_succ]
    rcases Nat.lt_or_ge i n with q | q
    · have := fb_si_upd f v q
      have e : (if n = i then v else f n) = f n := if_neg (by omega)
      rw [e]
      omega
    · have e : i = n := by omega
      subst e
      rw [fb_si_out f v (Nat.le_refl _)]
      simp only [if_true]
      omega
theorem fb_si_add (f g : Nat → Int) : ∀ n, fb_si (fun k => f k + g k) n = fb_si f n + fb_si g n
  | 0 => rfl
  | n + 1 => by
    have h := fb_si_add f g n
    rw [fb_si_succ, fb_si_succ, fb_si_succ, h]
    omega
theorem fb_si_sub (f g : Nat → Int) : ∀ n, fb_si (fun k => f k - g k) n = fb_si f n - fb_si g n
  | 0 => rfl
  | n + 1 => by
    have h := fb_si_sub f g n
    rw [fb_si_succ, fb_si_succ, fb_si_succ, h]
    omega
theorem fb_si_mul (c : Int) (f : Nat → Int) : ∀ n, fb_si (fun k => c * f k) n = c * fb_si f n
  | 0 => (Int.mul_zero c).symm
  | n + 1 => by
    have h := fb_si_mul c f n
    rw [fb_si_succ, fb_si_succ, h, Int.mul_add]
theorem fb_si_split (f : Nat → Int) (m : Nat) : ∀ n, fb_si f (m + n) = fb_si f m + fb_si (fun k => f (m + k)) n
  | 0 => (Int.add_zero _).symm
  | n + 1 => by
    have h := fb_si_split f m n
    show fb_si f (m + n + 1) = _
    rw [fb_si_succ, fb_si_succ, h, Int.add_assoc]
theorem fb_si_nat (f : Nat → Nat) : ∀ n, fb_si (fun k => (f k : Int)) n = (fb_sm f n : Int)
  | 0 => rfl
  | n + 1 => by
    have h := fb_si_nat f n
    rw [fb_si_succ, fb_sm_succ, h]
    omega
theorem fb_si_bound {f : Nat → Int} {c : Int} (hc : 0 ≤ c) : ∀ {n : Nat}, (∀ k, k < n → -c ≤ f k ∧ f k ≤ c) → -(n * c) ≤ fb_si f n ∧ fb_si f n ≤ n * c
  | 0, _ => by simp [fb_si]
  | n + 1, h => by
    have h1 := fb_si_bound (n := n) (f := f) hc (fun k hk => h k (by omega))
    have h2 := h n (by omega)
    have e : ((n + 1 : Nat) : Int) * c = n * c + c := by rw [Int.natCast_add, Int.add_mul]; simp
    rw [fb_si_succ, e]
    omega
/-! ===== bits of a long that isn't negative ===== -/
theorem fb_andL (a b : Nat) : lN a &&& lN b = lN (a &&& b) := by
  apply Int64.toBitVec_inj.1
  show BitVec.ofNat 64 a &&& BitVec.ofNat 64 b = BitVec.ofNat 64 (a &&& b)
  apply BitVec.eq_of_getLsbD_eq
  intro i hi
  simp [hi]
theorem fb_orL (a b : Nat) : lN a ||| lN b = lN (a ||| b) := by
  apply Int64.toBitVec_inj.1
  show BitVec.ofNat 64 a ||| BitVec.ofNat 64 b = BitVec.ofNat 64 (a ||| b)
  apply BitVec.eq_of_getLsbD_eq
  intro i hi
  simp [hi]
theorem fb_xorL (a b : Nat) : lN a ^^^ lN b = lN (a ^^^ b) := by
  apply Int64.toBitVec_inj.1
  show BitVec.ofNat 64 a ^^^ BitVec.ofNat 64 b = BitVec.ofNat 64 (a ^^^ b)
  apply BitVec.eq_of_getLsbD_eq
  intro i hi
  simp [hi]
theorem fb_xorI (a b : Nat) : nI a ^^^ nI b = nI (a ^^^ b) := by
  apply Int32.toBitVec_inj.1
  show BitVec.ofNat 32 a ^^^ BitVec.ofNat 32 b = BitVec.ofNat 32 (a ^^^ b)
  apply BitVec.eq_of_getLsbD_eq
  intro i hi
  simp [hi]
theorem fb_maskL (n k : Nat) : lN n &&& lN (2 ^ k - 1) = lN (n % 2 ^ k) := by rw [fb_andL, Nat.and_two_pow_sub_one_eq_mod]
theorem fb_or_sumL {a k : Nat} (b : Nat) (h : a < 2 ^ k) : lN (2 ^ k * b) ||| lN a = lN (2 ^ k * b + a) := by rw [fb_orL, Nat.two_pow_add_eq_or_of_lt h]
theorem fb_lN_inj {a b : Nat} (ha : a < 2 ^ 63) (hb : b < 2 ^ 63) : lN a = lN b ↔ a = b := by
  constructor
  · intro h
    have h1 : (BitVec.ofNat 64 a).toNat = (BitVec.ofNat 64 b).toNat := congrArg (fun x : Int64 => x.toBitVec.toNat) h
    rw [BitVec.toNat_ofNat, BitVec.toNat_ofNat, Nat.mod_eq_of_lt (by omega), Nat.mod_eq_of_lt (by omega)] at h1
    exact h1
  · rintro rfl; rfl
theorem fb_bit_nat (n j : Nat) : n &&& 2 ^ j = 0 ↔ n.testBit j = false := by
  constructor
  · intro h
    have h1 : (n &&& 2 ^ j).testBit j = false := by rw [h]; simp
    rw [Nat.testBit_and] at h1
    simpa using h1
  · intro h
    apply Nat.eq_of_testBit_eq
    intro i
    rw [Nat.testBit_and]
    by_cases hi : j = i
    · subst hi; simp [h]
    · first | (simp [Nat.testBit_two_pow, hi]; done) | (simp [Nat.testBit_two_pow_of_ne hi]; done)
/-- one bit of a long -/
theorem fb_bitL {n j : Nat} (hj : j < 63) : lN n &&& lN (2 ^ j) = 0 ↔ n.testBit j = false := by
  have h2 : (2 : Nat) ^ j < 2 ^ 63 := Nat.pow_lt_pow_right (by decide) hj
  have hle : n &&& 2 ^ j ≤ 2 ^ j := Nat.and_le_right
  rw [fb_andL, ← fb_bit_nat, show (0 : Int64) = lN 0 from rfl]
  exact fb_lN_inj (by omega) (by decide)
/-- a bit set, a bit taken off -/
theorem fb_bit_set (n j i : Nat) : (n ||| 2 ^ j).testBit i = (n.testBit i || decide (i = j)) := by
  rw [Nat.testBit_or]
  by_cases h : j = i
  · subst h; simp
  · have h2 : ¬ i = j := fun e => h e.symm
    first | (simp [Nat.testBit_two_pow, h, h2]; done) | (simp [Nat.testBit_two_pow_of_ne h, h2]; done)
theorem fb_bit_flip (n j i : Nat) : (n ^^^ 2 ^ j).testBit i = (n.testBit i ^^ decide (i = j)) := by
  rw [Nat.testBit_xor]
  by_cases h : j = i
  · subst h; simp
  · have h2 : ¬ i = j := fun e => h e.symm
    first | (simp [Nat.testBit_two_pow, h, h2]; done) | (simp [Nat.testBit_two_pow_of_ne h, h2]; done)
/-! ===== a stretch of an array written over by a function ===== -/
def fb_put {α : Type} (f g : Nat → α) (a n : Nat) : Nat → α := fun k => if a ≤ k ∧ k < a + n then g (k - a) else f k
theorem fb_put_0 {α : Type} (f g : Nat → α) (a : Nat) : fb_put f g a 0 = f := funext fun k => if_neg (by omega)
theorem fb_put_in {α : Type} {f g : Nat → α} {a n k : Nat} (h1 : a ≤ k) (h2 : k < a + n) : fb_put f g a n k = g (k - a) := if_pos ⟨h1, h2⟩
theorem fb_put_out {α : Type} {f g : Nat → α} {a n k : Nat} (h : k < a ∨ a + n ≤ k) : fb_put f g a n k = f k := if_neg (by omega)
theorem fb_put_succ (f g : Nat → Int32) (a n : Nat) : upd (fb_put f g a n) (a + n) (g n) = fb_put f g a (n + 1) := by
  funext k
  by_cases h : k = a + n
  · subst h
    simp [upd, fb_put]
  · by_cases h1 : a ≤ k ∧ k < a + n
    · have h2 : a ≤ k ∧ k < a + (n + 1) := by omega
      simp only [upd, fb_put, if_neg h, if_pos h1, if_pos h2]
    · have h2 : ¬ (a ≤ k ∧ k < a + (n + 1)) := by omega
      simp only [upd, fb_put, if_neg h, if_neg h1, if_neg h2]
/-- .. from the far end down -/
theorem fb_put_down (f g : Nat → Int32) {a n m : Nat} (h : m < n) : upd (fb_put f (fun k => g (k + (m + 1))) (a + (m + 1)) (n - (m + 1))) (a + m) (g m) = fb_put f (fun k => g (k + m)) (a + m) (n - m) := by
  funext k
  by_cases h0 : k = a + m
  · subst h0
    simp only [upd, if_true]
    rw [fb_put_in (by omega) (by omega)]
    exact congrArg g (by omega)
  · simp only [upd, if_neg h0]
    by_cases h1 : a + (m + 1) ≤ k ∧ k < a + (m + 1) + (n - (m + 1))
    · rw [fb_put_in h1.1 h1.2, fb_put_in (by omega) (by omega)]
      exact congrArg g (by omega)
    · rw [fb_put_out (by omega), fb_put_out (by omega)]
theorem fb_put_cong {α : Type} {f f2 g g2 : Nat → α} {a n : Nat} (hf : ∀ k, (k < a ∨ a + n ≤ k) → f k = f2 k) (hg : ∀ k, k < n → g k = g2 k) : fb_put f g a n = fb_put f2 g2 a n := by
  funext k
  by_cases h : a ≤ k ∧ k < a + n
  · rw [fb_put_in h.1 h.2, fb_put_in h.1 h.2, hg _ (by omega)]
  · rw [fb_put_out (by omega), fb_put_out (by omega), hf _ (by omega)]
/-! ===== the least, the first, the best so far; that there is one alone ===== -/
theorem fb_first {p : Nat → Prop} [DecidablePred p] : ∀ {n : Nat}, (∃ i, i < n ∧ p i) → ∃ i, i < n ∧ p i ∧ ∀ j, j < i → ¬ p j
  | 0, h => by obtain ⟨i, hi, -⟩ := h; exact absurd hi (Nat.not_lt_zero i)
  | n + 1, h => by
    by_cases q : ∃ i, i < n ∧ p i
    · obtain ⟨i, h1, h2⟩ := fb_first q
      exact ⟨i, by omega, h2⟩
    · obtain ⟨i, h1, h2⟩ := h
      have e : i = n := by
        rcases Nat.lt_or_ge i n with r | r
        · exact absurd ⟨i, r, h2⟩ q
        · omega
      subst e
      exact ⟨i, by omega, h2, fun j hj hp => q ⟨j, hj, hp⟩⟩
theorem fb_first_one {p : Nat → Prop} {i j : Nat} (hi : p i) (hi2 : ∀ k, k < i → ¬ p k) (hj : p j) (hj2 : ∀ k, k < j → ¬ p k) : i = j := by
  rcases Nat.lt_trichotomy i j with q | q | q
  · exact absurd hi (hj2 i q)
  · exact q
  · exact absurd hj (hi2 j q)
theorem fb_last {p : Nat → Prop} [DecidablePred p] : ∀ {n : Nat}, (∃ i, i < n ∧ p i) → ∃ i, i < n ∧ p i ∧ ∀ j, i < j → j < n → ¬ p j
  | 0, h => by obtain ⟨i, hi, -⟩ := h; exact absurd hi (Nat.not_lt_zero i)
  | n + 1, h => by
    by_cases q : p n
    · exact ⟨n, by omega, q, fun j h1 h2 => by omega⟩
    · obtain ⟨i, h1, h2⟩ := h
      have hi : i < n := by
        rcases Nat.lt_or_ge i n with r | r
        · exact r
        · have e : i = n := by omega
          subst e
          exact absurd h2 q
      obtain ⟨i2, a1, a2, a3⟩ := fb_last (n := n) ⟨i, hi, h2⟩
      refine ⟨i2, by omega, a2, fun j b1 b2 => ?_⟩
      rcases Nat.lt_or_ge j n with r | r
      · exact a3 j b1 r
      · have e : j = n := by omega
        subst e
        exact q
/-- the first greatest -/
theorem fb_best (f : Nat → Int) : ∀ {n : Nat}, 0 < n → ∃ i, i < n ∧ (∀ j, j < n → f j ≤ f i) ∧ ∀ j, j < i → f j < f i
  | 0, h => absurd h (Nat.lt_irrefl 0)
  | 1, _ => ⟨0, by omega, fun j hj => by have e : j = 0 := by omega
                                         subst e; exact Int.le_refl _, fun j hj => absurd hj (Nat.not_lt_zero j)⟩
  | n + 2, _ => by
    obtain ⟨i, h1, h2, h3⟩ := fb_best f (n := n + 1) (by omega)
    by_cases q : f i < f (n + 1)
    · refine ⟨n + 1, by omega, fun j hj => ?_, fun j hj => ?_⟩
      · rcases Nat.lt_or_ge j (n + 1) with r | r
        · have := h2 j r; omega
        · have e : j = n + 1 := by omega
          subst e; exact Int.le_refl _
      · have := h2 j hj; omega
    · refine ⟨i, by omega, fun j hj => ?_, h3⟩
      rcases Nat.lt_or_ge j (n + 1) with r | r
      · exact h2 j r
      · have e : j = n + 1 := by omega
        subst e; omega
theorem fb_best_one {f : Nat → Int} {n i j : Nat} (hi : i < n) (hi2 : ∀ k, k < n → f k ≤ f i) (hi3 : ∀ k, k < i → f k < f i) (hj : j < n) (hj2 : ∀ k, k < n → f k ≤ f j) (hj3 : ∀ k, k < j → f k < f j) : i = j := by
  rcases Nat.lt_trichotomy i j with q | q | q
  · have a := hj3 i q
    have b := hi2 j hj
    omega
  · exact q
  · have a := hi3 j q
    have b := hj2 i hi
    omega
/-- the first least -/
theorem fb_low (f : Nat → Int) {n : Nat} (h : 0 < n) : ∃ i, i < n ∧ (∀ j, j < n → f i ≤ f j) ∧ ∀ j, j < i → f i < f j := by
  obtain ⟨i, h1, h2, h3⟩ := fb_best (fun k => -f k) h
  exact ⟨i, h1, fun j hj => by have := h2 j hj; omega, fun j hj => by have := h3 j hj; omega⟩
/-! ===== signed ints as whole numbers, within bounds ===== -/
theorem fb_rng (x : Int32) : -2147483648 ≤ x.toInt ∧ x.toInt < 2147483648 := by
  have h1 := Int32.le_toInt x
  have h2 := Int32.toInt_lt x
  omega
theorem fb_bmod {z : Int} (h1 : -2147483648 ≤ z) (h2 : z < 2147483648) : z.bmod (2 ^ 32) = z := by
  rw [Int.bmod_eq_of_le (by omega) (by omega)]
theorem fb_addI {x y : Int32} (h1 : -2147483648 ≤ x.toInt + y.toInt) (h2 : x.toInt + y.toInt < 2147483648) : (x + y).toInt = x.toInt + y.toInt := by
  rw [Int32.toInt_add, fb_bmod h1 h2]
theorem fb_subI {x y : Int32} (h1 : -2147483648 ≤ x.toInt - y.toInt) (h2 : x.toInt - y.toInt < 2147483648) : (x - y).toInt = x.toInt - y.toInt := by
  rw [Int32.toInt_sub, fb_bmod h1 h2]
theorem fb_mulI {x y : Int32} (h1 : -2147483648 ≤ x.toInt * y.toInt) (h2 : x.toInt * y.toInt < 2147483648) : (x * y).toInt = x.toInt * y.toInt := by
  rw [Int32.toInt_mul, fb_bmod h1 h2]
theorem fb_negI {x : Int32} (h : x.toInt ≠ -2147483648) : (-x).toInt = -x.toInt := by
  have := fb_rng x
  rw [Int32.toInt_neg, fb_bmod (by omega) (by omega)]
theorem fb_ofI {z : Int} (h1 : -2147483648 ≤ z) (h2 : z < 2147483648) : (Int32.ofInt z).toInt = z := by
  rw [Int32.toInt_ofInt, fb_bmod h1 h2]
theorem fb_asI (x : Int32) : Int32.ofInt x.toInt = x := Int32.ofInt_toInt x
theorem fb_rngL (x : Int64) : -9223372036854775808 ≤ x.toInt ∧ x.toInt < 9223372036854775808 := by
  have h1 := Int64.le_toInt x
  have h2 := Int64.toInt_lt x
  omega
theorem fb_bmodL {z : Int} (h1 : -9223372036854775808 ≤ z) (h2 : z < 9223372036854775808) : z.bmod (2 ^ 64) = z := by
  rw [Int.bmod_eq_of_le (by omega) (by omega)]
theorem fb_addL {x y : Int64} (h1 : -9223372036854775808 ≤ x.toInt + y.toInt) (h2 : x.toInt + y.toInt < 9223372036854775808) : (x + y).toInt = x.toInt + y.toInt := by
  rw [Int64.toInt_add, fb_bmodL h1 h2]
theorem fb_subL {x y : Int64} (h1 : -9223372036854775808 ≤ x.toInt - y.toInt) (h2 : x.toInt - y.toInt < 9223372036854775808) : (x - y).toInt = x.toInt - y.toInt := by
  rw [Int64.toInt_sub, fb_bmodL h1 h2]
theorem fb_mulL {x y : Int64} (h1 : -9223372036854775808 ≤ x.toInt * y.toInt) (h2 : x.toInt * y.toInt < 9223372036854775808) : (x * y).toInt = x.toInt * y.toInt := by
  rw [Int64.toInt_mul, fb_bmodL h1 h2]
/-! ===== cuts of what is narrow already ===== -/
theorem fb_byte {x : Int32} (h1 : -128 ≤ x.toInt) (h2 : x.toInt < 128) : x.toInt8.toInt32 = x := by
  apply Int32.toInt_inj.1
  rw [Int8.toInt_toInt32, Int32.toInt_toInt8, Int.bmod_eq_of_le (by omega) (by omega)]
theorem fb_short {x : Int32} (h1 : -32768 ≤ x.toInt) (h2 : x.toInt < 32768) : x.toInt16.toInt32 = x := by
  apply Int32.toInt_inj.1
  rw [Int16.toInt_toInt32, Int32.toInt_toInt16, Int.bmod_eq_of_le (by omega) (by omega)]
theorem fb_byte_rng (x : Int32) : -128 ≤ x.toInt8.toInt32.toInt ∧ x.toInt8.toInt32.toInt < 128 := by
  rw [Int8.toInt_toInt32]
  have h1 := Int8.le_toInt x.toInt8
  have h2 := Int8.toInt_lt x.toInt8
  omega
theorem fb_short_rng (x : Int32) : -32768 ≤ x.toInt16.toInt32.toInt ∧ x.toInt16.toInt32.toInt < 32768 := by
  rw [Int16.toInt_toInt32]
  have h1 := Int16.le_toInt x.toInt16
  have h2 := Int16.toInt_lt x.toInt16
  omega
theorem fb_byte_twice (x : Int32) : x.toInt8.toInt32.toInt8.toInt32 = x.toInt8.toInt32 := fb_byte (fb_byte_rng x).1 (fb_byte_rng x).2
theorem fb_short_twice (x : Int32) : x.toInt16.toInt32.toInt16.toInt32 = x.toInt16.toInt32 := fb_short (fb_short_rng x).1 (fb_short_rng x).2
theorem fb_char {n : Nat} (h : n < 65536) : (nI n).toUInt32.toUInt16.toUInt32.toInt32 = nI n := by
  apply Int32.toBitVec_inj.1
  apply BitVec.eq_of_toNat_eq
  have e1 : (nI n).toBitVec.toNat = n := by
    show (BitVec.ofNat 32 n).toNat = n
    rw [BitVec.toNat_ofNat, Nat.mod_eq_of_lt (by omega)]
  have e2 : ((nI n).toUInt32.toUInt16.toUInt32).toNat = n := by
    rw [UInt16.toNat_toUInt32, UInt32.toNat_toUInt16]
    show (nI n).toBitVec.toNat % 2 ^ 16 = n
    rw [e1, Nat.mod_eq_of_lt (by omega)]
  rw [e1]
  exact e2
end
section
/-! PURE BASE: memory, small numbers, loops, bits -/
theorem m_row {M : hMem} {k j a : Nat} {v : Int32} (h : a ≠ k) : h_up M k j v a = M a := h_up_row M k j v h
theorem m_own (M : hMem) (k j : Nat) (v : Int32) : h_up M k j v k = upd (M k) j v := by
  funext i
  simp [h_up, upd]
theorem m_cpr {M : hMem} {s d a : Nat} {sp dp n : Int32} (h : a ≠ d) : h_cp M s sp d dp n a = M a := if_neg h
theorem m_cpo (M : hMem) (s d : Nat) (sp dp n : Int32) : h_cp M s sp d dp n d = va_cpy (M s) (M d) sp.toNatClampNeg dp.toNatClampNeg n.toNatClampNeg := if_pos rfl
theorem u_s (f : Nat → Int32) (k : Nat) (x : Int32) : upd f k x k = x := if_pos rfl
theorem u_n {f : Nat → Int32} {k j : Nat} {x : Int32} (h : j ≠ k) : upd f k x j = f j := if_neg h
theorem u_e (f : Nat → Int32) (k : Nat) (x : Int32) (j : Nat) : upd f k x j = if j = k then x else f j := rfl
theorem lp_s {σ ρ : Type} (body : (σ → Option ρ) → σ → Option ρ) (n : Nat) (s : σ) : h_lp body (n + 1) s = body (h_lp body n) s := rfl
theorem lp_h {σ ρ : Type} {body : (σ → Option ρ) → σ → Option ρ} (P : σ → Prop) (Q : ρ → Prop) (μ : σ → Nat) (h : ∀ (k : σ → Option ρ) (s : σ), P s → (∀ s', P s' → μ s' < μ s → ∃ r, k s' = some r ∧ Q r) → ∃ r, body k s = some r ∧ Q r) : ∀ (n : Nat) (s : σ), P s → μ s < n → ∃ r, h_lp body n s = some r ∧ Q r := by
  intro n
  induction n with
  | zero => intro s _ h0; exact absurd h0 (Nat.not_lt_zero _)
  | succ n ih => intro s hs hn; exact h _ s hs (fun s' h1 h2 => ih s' h1 (by omega))
theorem lp_f {σ ρ : Type} {body : (σ → Option ρ) → σ → Option ρ} (P : σ → Prop) (G : σ → ρ) (μ : σ → Nat) (h : ∀ (k : σ → Option ρ) (s : σ), P s → (∀ s', P s' → μ s' < μ s → k s' = some (G s')) → body k s = some (G s)) : ∀ (n : Nat) (s : σ), P s → μ s < n → h_lp body n s = some (G s) := by
  intro n
  induction n with
  | zero => intro s _ h0; exact absurd h0 (Nat.not_lt_zero _)
  | succ n ih => intro s hs hn; exact h _ s hs (fun s' h1 h2 => ih s' h1 (by omega))
/-- a loop that counts to e -/
theorem lp_up {σ ρ : Type} {body : (σ → Option ρ) → σ → Option ρ} (e : Nat) (P : Nat → σ → Prop) (Q : ρ → Prop) (hx : ∀ (k : σ → Option ρ) (s : σ), P e s → ∃ r, body k s = some r ∧ Q r) (hs : ∀ (k : σ → Option ρ) (i : Nat) (s : σ), i < e → P i s → (∀ s', P (i + 1) s' → ∃ r, k s' = some r ∧ Q r) → ∃ r, body k s = some r ∧ Q r) : ∀ (n i : Nat) (s : σ), i ≤ e → P i s → e - i < n → ∃ r, h_lp body n s = some r ∧ Q r := by
  intro n
  induction n with
  | zero => intro i s _ _ h0; exact absurd h0 (Nat.not_lt_zero _)
  | succ n ih =>
    intro i s hi hp hn
    rcases Nat.lt_or_ge i e with h | h
    · exact hs _ i s h hp (fun s' h1 => ih (i + 1) s' (by omega) h1 (by omega))
    · have he : i = e := by omega
      subst he
      exact hx _ s hp
theorem lp_u0 {σ ρ : Type} {body : (σ → Option ρ) → σ → Option ρ} (e : Nat) (P : Nat → σ → Prop) (Q : ρ → Prop) (s : σ) (h0 : P 0 s) (he : e < 20000) (hx : ∀ (k : σ → Option ρ) (s : σ), P e s → ∃ r, body k s = some r ∧ Q r) (hs : ∀ (k : σ → Option ρ) (i : Nat) (s : σ), i < e → P i s → (∀ s', P (i + 1) s' → ∃ r, k s' = some r ∧ Q r) → ∃ r, body k s = some r ∧ Q r) : ∃ r, h_lp body h_FU s = some r ∧ Q r :=
  lp_up e P Q hx hs h_FU 0 s (Nat.zero_le _) h0 he
/-- the same, its value told -/
theorem lp_g {σ ρ : Type} {body : (σ → Option ρ) → σ → Option ρ} (e : Nat) (S : Nat → σ) (r : ρ) (hx : ∀ (k : σ → Option ρ), body k (S e) = some r) (hs : ∀ (k : σ → Option ρ) (i : Nat), i < e → body k (S i) = k (S (i + 1))) (he : e < 20000) : h_lp body h_FU (S 0) = some r := by
  obtain ⟨q, h1, h2⟩ := lp_u0 (body := body) e (fun i s => s = S i) (fun q => q = r) (S 0) rfl he (fun k s h => ⟨r, by rw [h, hx], rfl⟩) (fun k i s hi h g => by rw [h, hs k i hi]; exact g _ rfl)
  rw [h1, h2]
/-! small numbers -/
theorem ib_int (a : Int32) (n : Nat) : h_ib a n ↔ 0 ≤ a.toInt ∧ a.toInt < n := by
  have e : a.toNatClampNeg = a.toInt.toNat := rfl
  simp only [h_ib, e]
  rw [Jvm.Kit.i32_nonneg]
  omega
theorem ib_mk {j n : Nat} (h : j < n) (hn : n ≤ 2 ^ 31) : h_ib (nI j) n := by
  rw [ib_int, nI_toInt (by omega)]
  omega
theorem ib_iff {j n : Nat} (hj : j < 2 ^ 31) : h_ib (nI j) n ↔ j < n := by
  rw [ib_int, nI_toInt hj]
  omega
theorem ib_ex {a : Int32} {n : Nat} (h : h_ib a n) : ∃ j, j < n ∧ j < 2 ^ 31 ∧ a = nI j := by
  obtain ⟨h1, h2⟩ := (ib_int a n).mp h
  have hb := a.toInt_lt
  refine ⟨a.toInt.toNat, by omega, by omega, ?_⟩
  apply Int32.toInt_inj.mp
  rw [nI_toInt (by omega)]
  omega
theorem ib_mono {a : Int32} {n m : Nat} (h : h_ib a n) (hm : n ≤ m) : h_ib a m := ⟨h.1, Nat.lt_of_lt_of_le h.2 hm⟩
theorem lt0_int (a : Int32) : a < 0 ↔ a.toInt < 0 := by rw [Int32.lt_iff_toInt_lt, Int32.toInt_zero]
theorem if_ge {α : Type} (a : Int32) (n : Nat) (A B : α) (hn : n < 2 ^ 31) : (if a < 0 then A else if nI n ≤ a then A else B) = if h_ib a n then B else A := by
  have h1 := lt0_int a
  have h2 : nI n ≤ a ↔ (n : Int) ≤ a.toInt := by rw [Int32.le_iff_toInt_le, nI_toInt hn]
  have h3 := ib_int a n
  by_cases c1 : a < 0
  · rw [if_pos c1, if_neg (fun h => by have := h3.mp h; have := h1.mp c1; omega)]
  · rw [if_neg c1]
    have c1' : ¬ a.toInt < 0 := fun h => c1 (h1.mpr h)
    by_cases c2 : nI n ≤ a
    · rw [if_pos c2, if_neg (fun h => by have := h3.mp h; have := h2.mp c2; omega)]
    · have c2' : ¬ (n : Int) ≤ a.toInt := fun h => c2 (h2.mpr h)
      rw [if_neg c2, if_pos (h3.mpr (by omega))]
theorem if_gt {α : Type} (a : Int32) (n : Nat) (A B : α) (hn : n < 2 ^ 31) : (if a < 0 then A else if nI n < a then A else B) = if h_ib a (n + 1) then B else A := by
  have h1 := lt0_int a
  have h2 : nI n < a ↔ (n : Int) < a.toInt := by rw [Int32.lt_iff_toInt_lt, nI_toInt hn]
  have h3 := ib_int a (n + 1)
  by_cases c1 : a < 0
  · rw [if_pos c1, if_neg (fun h => by have := h3.mp h; have := h1.mp c1; omega)]
  · rw [if_neg c1]
    have c1' : ¬ a.toInt < 0 := fun h => c1 (h1.mpr h)
    by_cases c2 : nI n < a
    · rw [if_pos c2, if_neg (fun h => by have := h3.mp h; have := h2.mp c2; omega)]
    · have c2' : ¬ (n : Int) < a.toInt := fun h => c2 (h2.mpr h)
      rw [if_neg c2, if_pos (h3.mpr (by omega))]
theorem nlt_le {a b : Int32} : a < b ↔ ¬ b ≤ a := by rw [Int32.lt_iff_toInt_lt, Int32.le_iff_toInt_le]; omega
theorem nle_lt {a b : Int32} : a ≤ b ↔ ¬ b < a := by rw [Int32.lt_iff_toInt_lt, Int32.le_iff_toInt_le]; omega
theorem if_lt {α : Type} (a : Int32) (n : Nat) (A B : α) (hn : n < 2 ^ 31) : (if a < 0 then A else if a < nI n then B else A) = if h_ib a n then B else A := by
  rw [← if_ge a n A B hn]
  by_cases c1 : a < 0
  · rw [if_pos c1, if_pos c1]
  · rw [if_neg c1, if_neg c1]
    by_cases c2 : nI n ≤ a
    · rw [if_pos c2, if_neg (fun h => nlt_le.mp h c2)]
    · rw [if_neg c2, if_pos (nlt_le.mpr c2)]
theorem if_le {α : Type} (a : Int32) (n : Nat) (A B : α) (hn : n < 2 ^ 31) : (if a < 0 then A else if a ≤ nI n then B else A) = if h_ib a (n + 1) then B else A := by
  rw [← if_gt a n A B hn]
  by_cases c1 : a < 0
  · rw [if_pos c1, if_pos c1]
  · rw [if_neg c1, if_neg c1]
    by_cases c2 : nI n < a
    · rw [if_pos c2, if_neg (fun h => nle_lt.mp h c2)]
    · rw [if_neg c2, if_pos (nle_lt.mpr c2)]
theorem b01 {α : Type} {c : Prop} [Decidable c] {A B : α} : (if (if c then (1 : Int32) else 0) = 0 then A else B) = if c then B else A := by
  by_cases h : c
  · rw [if_pos h, if_pos h, if_neg (by decide)]
  · rw [if_neg h, if_neg h, if_pos rfl]
theorem b10 {α : Type} {c : Prop} [Decidable c] {A B : α} : (if (if c then (0 : Int32) else 1) = 0 then A else B) = if c then A else B := by
  by_cases h : c
  · rw [if_pos h, if_pos h, if_pos rfl]
  · rw [if_neg h, if_neg h, if_neg (by decide)]
theorem n_rem {a d : Nat} (ha : a < 2 ^ 31) (h0 : 0 < d) (hd : d < 2 ^ 31) : h_rem (nI a) (nI d) = nI (a % d) := pk_rem ha h0 hd
theorem n_m1 {a : Nat} (h : a < 2 ^ 31) : ¬ nI a = -1 := fun e => by
  have h1 := congrArg Int32.toInt e
  rw [nI_toInt h] at h1
  have h2 : (-1 : Int32).toInt = -1 := by decide
  omega
theorem n_m1' {a : Nat} (h : a < 2 ^ 31) : ¬ -1 = nI a := fun e => n_m1 h e.symm
theorem n_of_ib {a : Int32} {n : Nat} (h : h_ib a n) : a = nI a.toNatClampNeg := by
  obtain ⟨j, h1, h2, rfl⟩ := ib_ex h
  rw [nI_clamp h2]
/-! bits -/
theorem b_1 : ∀ i, i < 32 → bt 1 i = decide (i = 0) := by decide +kernel
theorem bit_u (S : Int32) {c : Nat} (hc : c < 32) : (h_ushr S (nI c) &&& 1) = if bt S c = true then 1 else 0 := by
  apply b_ext
  intro i hi
  rw [b_and, show bt (h_ushr S (nI c)) i = bt S (c + i) from b_ushr c hc S i, b_1 i hi]
  by_cases h0 : i = 0
  · subst h0
    cases hb : bt S c with
    | true => rw [if_pos rfl, b_1 0 hi]; rfl
    | false => rw [if_neg (by decide), b_0]; rfl
  · rw [decide_eq_false h0, Bool.and_false]
    cases hb : bt S c with
    | true => rw [if_pos rfl, b_1 i hi, decide_eq_false h0]
    | false => rw [if_neg (by decide), b_0]
theorem bit_s (S : Int32) {c : Nat} (hc : c < 32) : ((S >>> (nI c &&& 31)) &&& 1) = if bt S c = true then 1 else 0 := by
  apply b_ext
  intro i hi
  rw [b_and, b_sshr c hc S hi, b_1 i hi]
  by_cases h0 : i = 0
  · subst h0
    rw [if_pos (by omega)]
    cases hb : bt S c with
    | true => rw [if_pos rfl, b_1 0 hi]; rfl
    | false => rw [if_neg (by decide), b_0]; rfl
  · rw [decide_eq_false h0, Bool.and_false]
    cases hb : bt S c with
    | true => rw [if_pos rfl, b_1 i hi, decide_eq_false h0]
    | false => rw [if_neg (by decide), b_0]
theorem b_pow {c i : Nat} (hc : c < 32) (hi : i < 32) : bt (1 <<< (nI c &&& 31)) i = decide (i = c) := by
  rw [b_shl c hc 1 hi]
  by_cases h : c ≤ i
  · rw [b_1 (i - c) (by omega), decide_eq_true h, Bool.true_and]
    by_cases h2 : i = c
    · rw [decide_eq_true h2, decide_eq_true (by omega)]
    · rw [decide_eq_false h2, decide_eq_false (by omega)]
  · rw [decide_eq_false h, Bool.false_and, decide_eq_false (by omega)]
theorem b_set (S : Int32) {c i : Nat} (hc : c < 32) (hi : i < 32) : bt (S ||| (1 <<< (nI c &&& 31))) i = (bt S i || decide (i = c)) := by rw [b_or, b_pow hc hi]
theorem b_clr (S : Int32) {c i : Nat} (hc : c < 32) (hi : i < 32) : bt (S &&& ((1 <<< (nI c &&& 31)) ^^^ (-1))) i = (bt S i && !decide (i = c)) := by rw [b_and, b_xor, b_pow hc hi, b_m1 i hi, Bool.xor_true]
theorem bit_1 {α : Type} {b : Bool} {A B : α} : (if (if b = true then (1 : Int32) else 0) = 1 then A else B) = if b = true then A else B := by
  cases b
  · rfl
  · rfl
/-- ranges and kernel checks -/
theorem dc2 {N K : Nat} {p : Nat → Nat → Bool} (h : (List.range N).all (fun i => (List.range K).all (fun j => p i j)) = true) {i j : Nat} (hi : i < N) (hj : j < K) : p i j = true := h_forall (p := fun j => p i j) (h_forall (p := fun i => (List.range K).all (fun j => p i j)) h hi) hj
end
section
/-! THE RELATION between the two memories -/
def gSets (x m : Nat → Int32) : Prop := ∀ k, k < 3 → x k = m k
def gGust (xw xt mw mt : Nat → Int32) : Prop := ∀ t, t < 24 → xw t = mw t ∧ xt t = mt t ∧ h_ib (mw t) 5 ∧ h_ib (mt t) 10
def gHats (xh : Nat → Nat → Int32) (mk mo mq ml : Nat → Int32) : Prop := ∀ h, h < 4 → xh h 0 = mk h ∧ xh h 1 = mo h ∧ xh h 2 = ml h * 32 + mq h ∧ h_ib (mk h) 6 ∧ h_ib (mo h) 10 ∧ h_ib (mq h) 32 ∧ h_ib (ml h) 3
def gCats (xc : Nat → Nat → Int32) (mc : Nat → Int32) : Prop := ∀ p, p < 4 → xc p 0 = mc (3 * p) ∧ xc p 1 = mc (3 * p + 1) ∧ xc p 2 = mc (3 * p + 2) ∧ h_ib (mc (3 * p)) 32 ∧ h_ib (mc (3 * p + 1)) 5 ∧ h_ib (mc (3 * p + 2)) 4
def gNum (x m : Int32) (n : Nat) : Prop := x = m ∧ h_ib m n
def gNow (T : Nat) (X M : hMem) : Prop := gSets (X 2) (M 1) ∧ gGust (X 3) (X 4) (M 2) (M 3) ∧ gHats (fun h => X (7 + h)) (M 4) (M 5) (M 6) (M 7) ∧ gCats (fun p => X (11 + p)) (M 8) ∧ gNum (X 1 5) (M 0 3) 5 ∧ gNum (X 1 6) (M 0 8) 5 ∧ gNum (X 1 7) (M 0 15) T
def gKept (T : Nat) (X M : hMem) : Prop := gSets (X 16) (M 12) ∧ gGust (X 17) (X 18) (fun t => M 12 (3 + t)) (fun t => M 12 (27 + t)) ∧ gHats (fun h => X (21 + h)) (fun h => M 12 (51 + h)) (fun h => M 12 (55 + h)) (fun h => M 12 (59 + h)) (fun h => M 12 (63 + h)) ∧ gCats (fun p => X (25 + p)) (fun k => M 12 (67 + k)) ∧ gNum (X 15 5) (M 0 17) 5 ∧ gNum (X 15 6) (M 0 18) 5 ∧ gNum (X 15 7) (M 0 19) T
def gTape (X M : hMem) : Prop := gNum (X 30 0) (M 0 11) 161 ∧ ∀ i, i < 160 → X 31 i = M 9 i ∧ h_ib (M 9 i) 256
def gSheets (X M : hMem) : Prop := ∀ s, s < 4 → X (80 + 2 * s) 0 = M 13 s ∧ X (80 + 2 * s) 1 = M 14 s ∧ (M 13 s = -1 ∨ h_ib (M 13 s) 3) ∧ h_ib (M 14 s) 41 ∧ ∀ i, i < 40 → X (81 + 2 * s) i = M 15 (40 * s + i)
/-- a word of a text's code, as the other one writes it -/
def trW (w : Int32) : Int32 := if 0 ≤ w then 100000 + w else if -6 ≤ w then -1 - w else -w
/-- the code from i on, n words, is read with a stack of top values: none is wanting, none too many, one is left -/
def wfR (c : Nat → Int32) : Nat → Nat → Nat → Prop
  | 0, _, top => 1 ≤ top
  | n + 1, i, top => (-6 ≤ c i ∧ c i ≤ 9999 ∧ top < 40 ∧ wfR c n (i + 1) (top + 1)) ∨ ((c i = -13 ∨ c i = -19) ∧ 1 ≤ top ∧ wfR c n (i + 1) top) ∨ ((c i = -11 ∨ c i = -12 ∨ c i = -14 ∨ c i = -15 ∨ c i = -16 ∨ c i = -17 ∨ c i = -18) ∧ 2 ≤ top ∧ wfR c n (i + 1) (top - 1))
/-- a text: its code, its parts' ends; the other one's -/
def gText (c e mc ms : Nat → Int32) : Prop := ∃ e0 e1 e2 : Nat, e 0 = nI e0 ∧ e 1 = nI e1 ∧ e 2 = nI e2 ∧ e0 ≤ e1 ∧ e1 ≤ e2 ∧ e2 ≤ 160 ∧ wfR c e0 0 0 ∧ wfR c (e1 - e0) e0 0 ∧ wfR c (e2 - e1) e1 0 ∧ (∀ i, i < e2 → mc i = trW (c i)) ∧ ms 0 = 0 ∧ ms 1 = nI e0 ∧ ms 2 = nI e1 ∧ ms 3 = nI e2
def gTexts (T : Nat) (X M : hMem) : Prop := ∀ t, t < T → gText (X (57 + 4 * t)) (X (58 + 4 * t)) (fun i => M 10 (200 * t + i)) (fun p => M 11 (4 * t + p))
def wdsL : List Int32 := [103, 111, 101, 115, 32, 32, 32, 32, 116, 117, 114, 110, 115, 32, 32, 32, 119, 111, 114, 116, 104, 32, 32, 32, 115, 116, 114, 101, 110, 103, 116, 104, 108, 105, 101, 32, 32, 32, 32, 32, 109, 111, 114, 101, 32, 32, 32, 32, 115, 101, 99, 111, 110, 100, 32, 32, 99, 101, 108, 108, 32, 32, 32, 32, 107, 105, 110, 100, 32, 32, 32, 32, 111, 114, 32, 32, 32, 32, 32, 32, 97, 110, 100, 32, 32, 32, 32, 32, 110, 111, 116, 32, 32, 32, 32, 32]
def RR (X M : hMem) : Prop := ∃ T : Nat, 1 ≤ T ∧ T ≤ 6 ∧ X 0 4 = nI T ∧ M 0 14 = nI T ∧ gNow T X M ∧ gKept T X M ∧ X 0 2 = M 0 16 ∧ M 0 39 = 0 ∧ gTape X M ∧ gSheets X M ∧ gTexts T X M ∧ ∀ i, i < 96 → M 17 i = wdsL.getD i 0
/-- what of x's cells stays -/
def kX (a : Nat) : Prop := a ≤ 28 ∨ a = 31 ∨ (56 ≤ a ∧ a < 80 ∧ a % 4 ≠ 3) ∨ 80 ≤ a
def kM (a : Nat) : Prop := (1 ≤ a ∧ a ≤ 15) ∨ a = 17
def kM0 (j : Nat) : Prop := j = 3 ∨ j = 8 ∨ j = 11 ∨ (14 ≤ j ∧ j ≤ 19) ∨ j = 39
/-- scratch has changed, no more -/
def keepX (X X' : hMem) : Prop := (∀ a, kX a → X' a = X a) ∧ X' 30 0 = X 30 0
def keepM (M M' : hMem) : Prop := (∀ a, kM a → M' a = M a) ∧ ∀ j, kM0 j → M' 0 j = M 0 j
theorem keepX.rf (X : hMem) : keepX X X := ⟨fun _ _ => rfl, rfl⟩
theorem keepM.rf (M : hMem) : keepM M M := ⟨fun _ _ => rfl, fun _ _ => rfl⟩
theorem keepX.tr {X Y Z : hMem} (h : keepX X Y) (g : keepX Y Z) : keepX X Z := ⟨fun a ha => (g.1 a ha).trans (h.1 a ha), g.2.trans h.2⟩
theorem keepM.tr {X Y Z : hMem} (h : keepM X Y) (g : keepM Y Z) : keepM X Z := ⟨fun a ha => (g.1 a ha).trans (h.1 a ha), fun j hj => (g.2 j hj).trans (h.2 j hj)⟩
theorem gHats_c {xh xh' : Nat → Nat → Int32} {mk mo mq ml mk' mo' mq' ml' : Nat → Int32} (h : gHats xh mk mo mq ml) (e0 : ∀ i, i < 4 → xh' i = xh i) (e1 : ∀ i, i < 4 → mk' i = mk i) (e2 : ∀ i, i < 4 → mo' i = mo i) (e3 : ∀ i, i < 4 → mq' i = mq i) (e4 : ∀ i, i < 4 → ml' i = ml i) : gHats xh' mk' mo' mq' ml' := fun i hi => by
  rw [e0 i hi, e1 i hi, e2 i hi, e3 i hi, e4 i hi]; exact h i hi
theorem gCats_c {xc xc' : Nat → Nat → Int32} {mc mc' : Nat → Int32} (h : gCats xc mc) (e0 : ∀ i, i < 4 → xc' i = xc i) (e1 : ∀ i, i < 12 → mc' i = mc i) : gCats xc' mc' := fun i hi => by
  rw [e0 i hi, e1 (3 * i) (by omega), e1 (3 * i + 1) (by omega), e1 (3 * i + 2) (by omega)]; exact h i hi
theorem gNow_c {T : Nat} {X M X' M' : hMem} (h : gNow T X M) (hx : ∀ a, 1 ≤ a → a ≤ 14 → X' a = X a) (hm : ∀ a, 1 ≤ a → a ≤ 8 → M' a = M a) (h0 : ∀ j, kM0 j → M' 0 j = M 0 j) : gNow T X' M' := by
  obtain ⟨h1, h2, h3, h4, h5, h6, h7⟩ := h
  refine ⟨?_, ?_, gHats_c h3 (fun i hi => hx _ (by omega) (by omega)) ?_ ?_ ?_ ?_, gCats_c h4 (fun i hi => hx _ (by omega) (by omega)) ?_, ?_, ?_, ?_⟩
  · rw [hx 2 (by omega) (by omega), hm 1 (by omega) (by omega)]; exact h1
  · rw [hx 3 (by omega) (by omega), hx 4 (by omega) (by omega), hm 2 (by omega) (by omega), hm 3 (by omega) (by omega)]; exact h2
  · intro i hi; rw [hm 4 (by omega) (by omega)]
  · intro i hi; rw [hm 5 (by omega) (by omega)]
  · intro i hi; rw [hm 6 (by omega) (by omega)]
  · intro i hi; rw [hm 7 (by omega) (by omega)]
  · intro i hi; rw [hm 8 (by omega) (by omega)]
  · rw [hx 1 (by omega) (by omega), h0 3 (by unfold kM0; omega)]; exact h5
  · rw [hx 1 (by omega) (by omega), h0 8 (by unfold kM0; omega)]; exact h6
  · rw [hx 1 (by omega) (by omega), h0 15 (by unfold kM0; omega)]; exact h7
theorem gKept_c {T : Nat} {X M X' M' : hMem} (h : gKept T X M) (hx : ∀ a, 15 ≤ a → a ≤ 28 → X' a = X a) (hm : M' 12 = M 12) (h0 : ∀ j, 17 ≤ j → j ≤ 19 → M' 0 j = M 0 j) : gKept T X' M' := by
  obtain ⟨h1, h2, h3, h4, h5, h6, h7⟩ := h
  refine ⟨?_, ?_, gHats_c h3 (fun i hi => hx _ (by omega) (by omega)) ?_ ?_ ?_ ?_, gCats_c h4 (fun i hi => hx _ (by omega) (by omega)) ?_, ?_, ?_, ?_⟩
  · rw [hx 16 (by omega) (by omega), hm]; exact h1
  · rw [hx 17 (by omega) (by omega), hx 18 (by omega) (by omega), hm]; exact h2
  · intro i hi; rw [hm]
  · intro i hi; rw [hm]
  · intro i hi; rw [hm]
  · intro i hi; rw [hm]
  · intro i hi; rw [hm]
  · rw [hx 15 (by omega) (by omega), h0 17 (by omega) (by omega)]; exact h5
  · rw [hx 15 (by omega) (by omega), h0 18 (by omega) (by omega)]; exact h6
  · rw [hx 15 (by omega) (by omega), h0 19 (by omega) (by omega)]; exact h7
theorem gTape_c {X M X' M' : hMem} (h : gTape X M) (e1 : X' 30 0 = X 30 0) (e2 : X' 31 = X 31) (e3 : M' 0 11 = M 0 11) (e4 : M' 9 = M 9) : gTape X' M' := by
  unfold gTape at h ⊢
  rw [e1, e2, e3, e4]; exact h
theorem gSheets_c {X M X' M' : hMem} (h : gSheets X M) (hx : ∀ a, 80 ≤ a → X' a = X a) (hm : ∀ a, 13 ≤ a → a ≤ 15 → M' a = M a) : gSheets X' M' := fun s hs => by
  rw [hx _ (by omega), hx (81 + 2 * s) (by omega), hm 13 (by omega) (by omega), hm 14 (by omega) (by omega), hm 15 (by omega) (by omega)]; exact h s hs
theorem gTexts_c {T : Nat} {X M X' M' : hMem} (h : gTexts T X M) (hx : ∀ a, 56 ≤ a → a < 80 → a % 4 ≠ 3 → X' a = X a) (h1 : M' 10 = M 10) (h2 : M' 11 = M 11) (hT : T ≤ 6) : gTexts T X' M' := fun t ht => by
  rw [hx (57 + 4 * t) (by omega) (by omega) (by omega), hx (58 + 4 * t) (by omega) (by omega) (by omega), h1, h2]; exact h t ht
theorem RR.keep {X M X' M' : hMem} (h : RR X M) (hx : keepX X X') (hm : keepM M M') : RR X' M' := by
  obtain ⟨T, t1, t2, t3, t4, n, k, f1, f2, tp, sh, tx, wd⟩ := h
  refine ⟨T, t1, t2, ?_, ?_, gNow_c n ?_ ?_ hm.2, gKept_c k ?_ ?_ ?_, ?_, ?_, gTape_c tp hx.2 ?_ ?_ ?_, gSheets_c sh ?_ ?_, gTexts_c tx ?_ ?_ ?_ t2, ?_⟩
  · rw [hx.1 0 (by unfold kX; omega)]; exact t3
  · rw [hm.2 14 (by unfold kM0; omega)]; exact t4
  · exact fun a h1 h2 => hx.1 a (by unfold kX; omega)
  · exact fun a h1 h2 => hm.1 a (by unfold kM; omega)
  · exact fun a h1 h2 => hx.1 a (by unfold kX; omega)
  · exact hm.1 12 (by unfold kM; omega)
  · exact fun j h1 h2 => hm.2 j (by unfold kM0; omega)
  · rw [hx.1 0 (by unfold kX; omega), hm.2 16 (by unfold kM0; omega)]; exact f1
  · rw [hm.2 39 (by unfold kM0; omega)]; exact f2
  · exact hx.1 31 (by unfold kX; omega)
  · exact hm.2 11 (by unfold kM0; omega)
  · exact hm.1 9 (by unfold kM; omega)
  · exact fun a h1 => hx.1 a (by unfold kX; omega)
  · exact fun a h1 h2 => hm.1 a (by unfold kM; omega)
  · exact fun a h1 h2 h3 => hx.1 a (by unfold kX; omega)
  · exact hm.1 10 (by unfold kM; omega)
  · exact hm.1 11 (by unfold kM; omega)
  · rw [hm.1 17 (by unfold kM; omega)]; exact wd
/-- the street as it is has changed, no more -/
theorem RR.now {X M X' M' : hMem} (h : RR X M) (hx : ∀ a, kX a → a = 0 ∨ 15 ≤ a → X' a = X a) (hx3 : X' 30 0 = X 30 0) (hm : ∀ a, kM a → 9 ≤ a → M' a = M a) (hm0 : ∀ j, kM0 j → j ≠ 3 → j ≠ 8 → j ≠ 15 → M' 0 j = M 0 j) (hn : ∀ T, T ≤ 6 → X 0 4 = nI T → M 0 14 = nI T → gNow T X M → gNow T X' M') : RR X' M' := by
  obtain ⟨T, t1, t2, t3, t4, n, k, f1, f2, tp, sh, tx, wd⟩ := h
  refine ⟨T, t1, t2, ?_, ?_, hn T t2 t3 t4 n, gKept_c k ?_ ?_ ?_, ?_, ?_, gTape_c tp hx3 ?_ ?_ ?_, gSheets_c sh ?_ ?_, gTexts_c tx ?_ ?_ ?_ t2, ?_⟩
  · rw [hx 0 (by unfold kX; omega) (by omega)]; exact t3
  · rw [hm0 14 (by unfold kM0; omega) (by omega) (by omega) (by omega)]; exact t4
  · exact fun a h1 h2 => hx a (by unfold kX; omega) (by omega)
  · exact hm 12 (by unfold kM; omega) (by omega)
  · exact fun j h1 h2 => hm0 j (by unfold kM0; omega) (by omega) (by omega) (by omega)
  · rw [hx 0 (by unfold kX; omega) (by omega), hm0 16 (by unfold kM0; omega) (by omega) (by omega) (by omega)]; exact f1
  · rw [hm0 39 (by unfold kM0; omega) (by omega) (by omega) (by omega)]; exact f2
  · exact hx 31 (by unfold kX; omega) (by omega)
  · exact hm0 11 (by unfold kM0; omega) (by omega) (by omega) (by omega)
  · exact hm 9 (by unfold kM; omega) (by omega)
  · exact fun a h1 => hx a (by unfold kX; omega) (by omega)
  · exact fun a h1 h2 => hm a (by unfold kM; omega) (by omega)
  · exact fun a h1 h2 h3 => hx a (by unfold kX; omega) (by omega)
  · exact hm 10 (by unfold kM; omega) (by omega)
  · exact hm 11 (by unfold kM; omega) (by omega)
  · rw [hm 17 (by unfold kM; omega) (by omega)]; exact wd
theorem RR.getN {X M : hMem} (h : RR X M) : ∃ T, T ≤ 6 ∧ gNow T X M := by
  obtain ⟨T, t1, t2, t3, t4, n, k, f1, f2, tp, sh, tx, wd⟩ := h
  exact ⟨T, t2, n⟩
/-- the sheets have changed, no more (scratch, too) -/
theorem RR.sheets {X M X' M' : hMem} (h : RR X M) (hx : ∀ a, kX a → a < 80 → X' a = X a) (hx3 : X' 30 0 = X 30 0) (hm : ∀ a, kM a → a ≤ 12 ∨ a = 17 → M' a = M a) (hm0 : ∀ j, kM0 j → M' 0 j = M 0 j) (hs : gSheets X' M') : RR X' M' := by
  obtain ⟨T, t1, t2, t3, t4, n, k, f1, f2, tp, sh, tx, wd⟩ := h
  refine ⟨T, t1, t2, ?_, ?_, gNow_c n ?_ ?_ hm0, gKept_c k ?_ ?_ ?_, ?_, ?_, gTape_c tp hx3 ?_ ?_ ?_, hs, gTexts_c tx ?_ ?_ ?_ t2, ?_⟩
  · rw [hx 0 (by unfold kX; omega) (by omega)]; exact t3
  · rw [hm0 14 (by unfold kM0; omega)]; exact t4
  · exact fun a h1 h2 => hx a (by unfold kX; omega) (by omega)
  · exact fun a h1 h2 => hm a (by unfold kM; omega) (by omega)
  · exact fun a h1 h2 => hx a (by unfold kX; omega) (by omega)
  · exact hm 12 (by unfold kM; omega) (by omega)
  · exact fun j h1 h2 => hm0 j (by unfold kM0; omega)
  · rw [hx 0 (by unfold kX; omega) (by omega), hm0 16 (by unfold kM0; omega)]; exact f1
  · rw [hm0 39 (by unfold kM0; omega)]; exact f2
  · exact hx 31 (by unfold kX; omega) (by omega)
  · exact hm0 11 (by unfold kM0; omega)
  · exact hm 9 (by unfold kM; omega) (by omega)
  · exact fun a h1 h2 h3 => hx a (by unfold kX; omega) (by omega)
  · exact hm 10 (by unfold kM; omega) (by omega)
  · exact hm 11 (by unfold kM; omega) (by omega)
  · rw [hm 17 (by unfold kM; omega) (by omega)]; exact wd
end
section
/-! THE SMALL TESTS, both sides as h_ib -/
theorem xe_sq (a : Int32) (M : hMem) : fX9_isSquare a M = if h_ib a 32 then 1 else 0 := if_ge a 32 0 1 (by decide)
theorem xe_sec (a : Int32) (M : hMem) : fX9_isSecond a M = if h_ib a 24 then 1 else 0 := if_ge a 24 0 1 (by decide)
theorem xe_beh (a : Int32) (M : hMem) : fX9_isBehind a M = if h_ib a 25 then 1 else 0 := if_gt a 24 0 1 (by decide)
theorem xe_byte (a : Int32) (M : hMem) : fX9_isByte a M = if h_ib a 256 then 1 else 0 := if_gt a 255 0 1 (by decide)
theorem xe_lie (a : Int32) (M : hMem) : fX9_isLie a M = if h_ib a 3 then 1 else 0 := if_ge a 3 0 1 (by decide)
theorem xe_pace (a : Int32) (M : hMem) : fX9_isPace a M = if h_ib a 5 then 1 else 0 := if_gt a 4 0 1 (by decide)
theorem xe_reach (a : Int32) (M : hMem) : fX9_isReach a M = if h_ib a 4 then 1 else 0 := if_gt a 3 0 1 (by decide)
theorem xe_seed (a : Int32) (M : hMem) : fX9_isSeed a M = if h_ib a 100000 then 1 else 0 := if_gt a 99999 0 1 (by decide)
theorem xe_sheet (a : Int32) (M : hMem) : fX9_isSheet a M = if h_ib a 4 then 1 else 0 := if_ge a 4 0 1 (by decide)
theorem ib2 (a : Int32) : h_ib a 2 ↔ a = 0 ∨ a = 1 := by
  constructor
  · intro h
    obtain ⟨j, h1, h2, rfl⟩ := ib_ex h
    rcases (by omega : j = 0 ∨ j = 1) with rfl | rfl
    · exact Or.inl rfl
    · exact Or.inr rfl
  · rintro (rfl | rfl)
    · exact ib_mk (j := 0) (by omega) (by omega)
    · exact ib_mk (j := 1) (by omega) (by omega)
theorem xe_01 (a : Int32) (M : hMem) : fX9_isZeroOrOne a M = if h_ib a 2 then 1 else 0 := by
  unfold fX9_isZeroOrOne
  by_cases h0 : a = 0
  · rw [if_pos h0, if_pos ((ib2 a).mpr (Or.inl h0))]
  · rw [if_neg h0]
    by_cases h1 : a = 1
    · rw [if_pos h1, if_pos ((ib2 a).mpr (Or.inr h1))]
    · rw [if_neg h1, if_neg (fun h => ((ib2 a).mp h).elim h0 h1)]
theorem me_in (a : Int32) (n : Nat) (M : hMem) (hn : n < 2 ^ 31) : fX10_in a 0 (nI n) M = if h_ib a (n + 1) then 1 else 0 := if_gt a n 0 1 hn
theorem me_in1 (a : Int32) (M : hMem) : fX10_in a 0 1 M = if h_ib a 2 then 1 else 0 := me_in a 1 M (by decide)
theorem me_in2 (a : Int32) (M : hMem) : fX10_in a 0 2 M = if h_ib a 3 then 1 else 0 := me_in a 2 M (by decide)
theorem me_in3 (a : Int32) (M : hMem) : fX10_in a 0 3 M = if h_ib a 4 then 1 else 0 := me_in a 3 M (by decide)
theorem me_in4 (a : Int32) (M : hMem) : fX10_in a 0 4 M = if h_ib a 5 then 1 else 0 := me_in a 4 M (by decide)
theorem me_in9 (a : Int32) (M : hMem) : fX10_in a 0 9 M = if h_ib a 10 then 1 else 0 := me_in a 9 M (by decide)
theorem me_in23 (a : Int32) (M : hMem) : fX10_in a 0 23 M = if h_ib a 24 then 1 else 0 := me_in a 23 M (by decide)
theorem me_sec (a : Int32) (M : hMem) : fX10_areSeconds a M = if h_ib a 25 then 1 else 0 := me_in a 24 M (by decide)
theorem me_sq (a : Int32) (M : hMem) : fX10_isSquare a M = if h_ib a 32 then 1 else 0 := me_in a 31 M (by decide)
theorem me_byte (a : Int32) (M : hMem) : fX10_isByte a M = if h_ib a 256 then 1 else 0 := me_in a 255 M (by decide)
theorem lim_m1 {H : Nat} (hH : H < 2 ^ 30) : (nI H - 1).toInt = (H : Int) - 1 := pk_sub_toInt (a := H) (b := 1) hH (by decide)
/-- a number below a count that may be 0 -/
theorem me_cnt (a : Int32) (H : Nat) (M : hMem) (hH : H < 2 ^ 30) : fX10_in a 0 (nI H - 1) M = if h_ib a H then 1 else 0 := by
  unfold fX10_in
  have h1 := lt0_int a
  have h2 : nI H - 1 < a ↔ (H : Int) - 1 < a.toInt := by rw [Int32.lt_iff_toInt_lt, lim_m1 hH]
  have h3 := ib_int a H
  by_cases c1 : a < 0
  · rw [if_pos c1, if_neg (fun h => by have := h3.mp h; have := h1.mp c1; omega)]
  · rw [if_neg c1]
    have c1' : ¬ a.toInt < 0 := fun h => c1 (h1.mpr h)
    by_cases c2 : nI H - 1 < a
    · rw [if_pos c2, if_neg (fun h => by have := h3.mp h; have := h2.mp c2; omega)]
    · have c2' : ¬ (H : Int) - 1 < a.toInt := fun h => c2 (h2.mpr h)
      rw [if_neg c2, if_pos (h3.mpr (by omega))]
theorem xe_hat {a : Int32} {X : hMem} {H : Nat} (h : X 1 5 = nI H) (hH : H < 2 ^ 31) : fX9_isHat a X = if h_ib a H then 1 else 0 := by
  unfold fX9_isHat; rw [h]; exact if_ge a H 0 1 hH
theorem xe_cat {a : Int32} {X : hMem} {H : Nat} (h : X 1 6 = nI H) (hH : H < 2 ^ 31) : fX9_isCatcher a X = if h_ib a H then 1 else 0 := by
  unfold fX9_isCatcher; rw [h]; exact if_ge a H 0 1 hH
theorem me_hat {a : Int32} {M : hMem} {H : Nat} (h : M 0 3 = nI H) (hH : H < 2 ^ 30) : fX10_isHat a M = if h_ib a H then 1 else 0 := by
  unfold fX10_isHat; rw [h]; exact me_cnt a H M hH
theorem me_cat {a : Int32} {M : hMem} {H : Nat} (h : M 0 8 = nI H) (hH : H < 2 ^ 30) : fX10_isCatcher a M = if h_ib a H then 1 else 0 := by
  unfold fX10_isCatcher; rw [h]; exact me_cnt a H M hH
theorem me_has {M : hMem} {k c : Nat} (hk : k < 3) (hc : c < 32) : fX10_has (nI k) (nI c) M = some (if bt (M 1 k) c = true then 1 else 0) := by
  unfold fX10_has
  rw [if_pos (ib_mk hk (by omega)), nI_clamp (by omega), bit_s _ hc, bit_1]
  split <;> rfl
theorem me_has0 {M : hMem} {c : Nat} (hc : c < 32) : fX10_has 0 (nI c) M = some (if bt (M 1 0) c = true then 1 else 0) := me_has (k := 0) (by omega) hc
theorem me_has1 {M : hMem} {c : Nat} (hc : c < 32) : fX10_has 1 (nI c) M = some (if bt (M 1 1) c = true then 1 else 0) := me_has (k := 1) (by omega) hc
theorem me_has2 {M : hMem} {c : Nat} (hc : c < 32) : fX10_has 2 (nI c) M = some (if bt (M 1 2) c = true then 1 else 0) := me_has (k := 2) (by omega) hc
theorem xe_open {a : Int32} {X : hMem} : fX9_isOpen a X = if h_ib a 32 then (if bt (X 2 0) a.toNatClampNeg = true then 0 else 1) else 0 := by
  unfold fX9_isOpen
  rw [xe_sq, b01]
  by_cases h : h_ib a 32
  · rw [if_pos h, if_pos h]
    obtain ⟨c, hc, hc2, rfl⟩ := ib_ex h
    rw [bit_u _ hc, b01, nI_clamp hc2]
  · rw [if_neg h, if_neg h]
theorem me_open {a : Int32} {M : hMem} : fX10_isFree a M = some (if h_ib a 32 then (if bt (M 1 0) a.toNatClampNeg = true then 0 else 1) else 0) := by
  unfold fX10_isFree
  rw [me_sq, b01]
  by_cases h : h_ib a 32
  · rw [if_pos h, if_pos h]
    obtain ⟨c, hc, hc2, rfl⟩ := ib_ex h
    rw [me_has0 hc, Option.bind_some, b01, nI_clamp hc2]
    split <;> rfl
  · rw [if_neg h, if_neg h]
/-! CALLS: the answers are alike, and the memories go on alike -/
def EqC (fx fm : Option (Int32 × hMem)) : Prop := ∃ (v : Int32) (X' M' : hMem), fx = some (v, X') ∧ fm = some (v, M') ∧ RR X' M'
theorem EqC.now {v : Int32} {X' M' : hMem} (h : RR X' M') : EqC (some (v, X')) (some (v, M')) := ⟨v, X', M', rfl, rfl, h⟩
theorem EqC.val {v w : Int32} {X' M' : hMem} (e : v = w) (h : RR X' M') : EqC (some (v, X')) (some (w, M')) := ⟨w, X', M', by rw [e], rfl, h⟩
def EqP (fx fm : Option Int32) : Prop := ∃ v : Int32, fx = some v ∧ fm = some v
theorem EqP.now (v : Int32) : EqP (some v) (some v) := ⟨v, rfl, rfl⟩
theorem RR.hats {X M : hMem} (h : RR X M) : ∃ H, H ≤ 4 ∧ X 1 5 = nI H ∧ M 0 3 = nI H := by
  obtain ⟨T, -, -, -, -, -, h5, -, -⟩ := h.getN
  obtain ⟨H, q1, q2, q3⟩ := ib_ex h5.2
  exact ⟨H, by omega, h5.1.trans q3, q3⟩
theorem RR.cats {X M : hMem} (h : RR X M) : ∃ H, H ≤ 4 ∧ X 1 6 = nI H ∧ M 0 8 = nI H := by
  obtain ⟨T, -, -, -, -, -, -, h5, -⟩ := h.getN
  obtain ⟨H, q1, q2, q3⟩ := ib_ex h5.2
  exact ⟨H, by omega, h5.1.trans q3, q3⟩
theorem RR.setsE {X M : hMem} (h : RR X M) {k : Nat} (hk : k < 3) : X 2 k = M 1 k := by
  obtain ⟨T, -, h1, -⟩ := h.getN
  exact h1 k hk
theorem RR.gust {X M : hMem} (h : RR X M) {t : Nat} (ht : t < 24) : X 3 t = M 2 t ∧ X 4 t = M 3 t ∧ h_ib (M 2 t) 5 ∧ h_ib (M 3 t) 10 := by
  obtain ⟨T, -, -, h1, -⟩ := h.getN
  exact h1 t ht
theorem RR.hatE {X M : hMem} (h : RR X M) {i : Nat} (hi : i < 4) : X (7 + i) 0 = M 4 i ∧ X (7 + i) 1 = M 5 i ∧ X (7 + i) 2 = M 7 i * 32 + M 6 i ∧ h_ib (M 4 i) 6 ∧ h_ib (M 5 i) 10 ∧ h_ib (M 6 i) 32 ∧ h_ib (M 7 i) 3 := by
  obtain ⟨T, -, -, -, h1, -⟩ := h.getN
  exact h1 i hi
theorem RR.catE {X M : hMem} (h : RR X M) {p : Nat} (hp : p < 4) : X (11 + p) 0 = M 8 (3 * p) ∧ X (11 + p) 1 = M 8 (3 * p + 1) ∧ X (11 + p) 2 = M 8 (3 * p + 2) ∧ h_ib (M 8 (3 * p)) 32 ∧ h_ib (M 8 (3 * p + 1)) 5 ∧ h_ib (M 8 (3 * p + 2)) 4 := by
  obtain ⟨T, -, -, -, -, h1, -⟩ := h.getN
  exact h1 p hp
theorem eq_wind {X M : hMem} (h : RR X M) (a : Int32) : EqP (fX9_wind a X) (fX10_wind a M) := by
  unfold fX9_wind fX10_wind fX7_gust
  rw [xe_sec, me_in23, b01, b01]
  by_cases ha : h_ib a 24
  · obtain ⟨t, ht, ht2, rfl⟩ := ib_ex ha
    simp only [if_pos ha, Option.bind_some, nI_clamp ht2, (h.gust ht).1, (h.gust ht).2.1]
    exact EqP.now _
  · rw [if_neg ha, if_neg ha]; exact EqP.now _
theorem q_gt2 {α : Type} {a : Int32} {A B : α} : (if a < 0 then A else if 2 < a then A else B) = if h_ib a 3 then B else A := if_gt a 2 A B (by decide)
theorem q_gt3 {α : Type} {a : Int32} {A B : α} : (if a < 0 then A else if 3 < a then A else B) = if h_ib a 4 then B else A := if_gt a 3 A B (by decide)
theorem q_gt4 {α : Type} {a : Int32} {A B : α} : (if a < 0 then A else if 4 < a then A else B) = if h_ib a 5 then B else A := if_gt a 4 A B (by decide)
theorem q_gt5 {α : Type} {a : Int32} {A B : α} : (if a < 0 then A else if 5 < a then A else B) = if h_ib a 6 then B else A := if_gt a 5 A B (by decide)
theorem q_gt6 {α : Type} {a : Int32} {A B : α} : (if a < 0 then A else if 6 < a then A else B) = if h_ib a 7 then B else A := if_gt a 6 A B (by decide)
theorem q_gt9 {α : Type} {a : Int32} {A B : α} : (if a < 0 then A else if 9 < a then A else B) = if h_ib a 10 then B else A := if_gt a 9 A B (by decide)
theorem q_gt13 {α : Type} {a : Int32} {A B : α} : (if a < 0 then A else if 13 < a then A else B) = if h_ib a 14 then B else A := if_gt a 13 A B (by decide)
theorem q_gt25 {α : Type} {a : Int32} {A B : α} : (if a < 0 then A else if 25 < a then A else B) = if h_ib a 26 then B else A := if_gt a 25 A B (by decide)
theorem q_gt31 {α : Type} {a : Int32} {A B : α} : (if a < 0 then A else if 31 < a then A else B) = if h_ib a 32 then B else A := if_gt a 31 A B (by decide)
theorem q_gt35 {α : Type} {a : Int32} {A B : α} : (if a < 0 then A else if 35 < a then A else B) = if h_ib a 36 then B else A := if_gt a 35 A B (by decide)
theorem q_le1 {α : Type} {a : Int32} {A B : α} : (if a < 0 then A else if a ≤ 1 then B else A) = if h_ib a 2 then B else A := if_le a 1 A B (by decide)
theorem q_le6 {α : Type} {a : Int32} {A B : α} : (if a < 0 then A else if a ≤ 6 then B else A) = if h_ib a 7 then B else A := if_le a 6 A B (by decide)
theorem q_le9 {α : Type} {a : Int32} {A B : α} : (if a < 0 then A else if a ≤ 9 then B else A) = if h_ib a 10 then B else A := if_le a 9 A B (by decide)
theorem q_le13 {α : Type} {a : Int32} {A B : α} : (if a < 0 then A else if a ≤ 13 then B else A) = if h_ib a 14 then B else A := if_le a 13 A B (by decide)
theorem q_le25 {α : Type} {a : Int32} {A B : α} : (if a < 0 then A else if a ≤ 25 then B else A) = if h_ib a 26 then B else A := if_le a 25 A B (by decide)
theorem q_lt3 {α : Type} {a : Int32} {A B : α} : (if a < 0 then A else if a < 3 then B else A) = if h_ib a 3 then B else A := if_lt a 3 A B (by decide)
theorem q_lt6 {α : Type} {a : Int32} {A B : α} : (if a < 0 then A else if a < 6 then B else A) = if h_ib a 6 then B else A := if_lt a 6 A B (by decide)
theorem q_lt36 {α : Type} {a : Int32} {A B : α} : (if a < 0 then A else if a < 36 then B else A) = if h_ib a 36 then B else A := if_lt a 36 A B (by decide)
theorem q_ge3 {α : Type} {a : Int32} {A B : α} : (if a < 0 then A else if 3 ≤ a then A else B) = if h_ib a 3 then B else A := if_ge a 3 A B (by decide)
theorem q_ge6 {α : Type} {a : Int32} {A B : α} : (if a < 0 then A else if 6 ≤ a then A else B) = if h_ib a 6 then B else A := if_ge a 6 A B (by decide)
theorem q_ge24 {α : Type} {a : Int32} {A B : α} : (if a < 0 then A else if 24 ≤ a then A else B) = if h_ib a 24 then B else A := if_ge a 24 A B (by decide)
/-- gusts alone changed -/
theorem gNow_g {T : Nat} {X M X' M' : hMem} (n : gNow T X M) (hx : ∀ a, 1 ≤ a → a ≤ 14 → a ≠ 3 → a ≠ 4 → X' a = X a) (hm : ∀ a, 1 ≤ a → a ≤ 8 → a ≠ 2 → a ≠ 3 → M' a = M a) (h0 : ∀ j, kM0 j → M' 0 j = M 0 j) (g : gGust (X' 3) (X' 4) (M' 2) (M' 3)) : gNow T X' M' := by
  obtain ⟨h1, h2, h3, h4, h5, h6, h7⟩ := n
  refine ⟨?_, g, gHats_c h3 (fun i hi => hx _ (by omega) (by omega) (by omega) (by omega)) ?_ ?_ ?_ ?_, gCats_c h4 (fun i hi => hx _ (by omega) (by omega) (by omega) (by omega)) ?_, ?_, ?_, ?_⟩
  · rw [hx 2 (by omega) (by omega) (by omega) (by omega), hm 1 (by omega) (by omega) (by omega) (by omega)]; exact h1
  · intro i hi; rw [hm 4 (by omega) (by omega) (by omega) (by omega)]
  · intro i hi; rw [hm 5 (by omega) (by omega) (by omega) (by omega)]
  · intro i hi; rw [hm 6 (by omega) (by omega) (by omega) (by omega)]
  · intro i hi; rw [hm 7 (by omega) (by omega) (by omega) (by omega)]
  · intro i hi; rw [hm 8 (by omega) (by omega) (by omega) (by omega)]
  · rw [hx 1 (by omega) (by omega) (by omega) (by omega), h0 3 (by unfold kM0; omega)]; exact h5
  · rw [hx 1 (by omega) (by omega) (by omega) (by omega), h0 8 (by unfold kM0; omega)]; exact h6
  · rw [hx 1 (by omega) (by omega) (by omega) (by omega), h0 15 (by unfold kM0; omega)]; exact h7
theorem eq_blow {X M : hMem} (h : RR X M) (a b c : Int32) : EqC (fX9_blow a b c X) (fX10_blow a b c M) := by
  unfold fX9_blow fX10_blow fX7_gust
  rw [xe_sec, me_in23, b01, b01, me_in4, b01, me_in9, b01, q_gt4, q_le9]
  by_cases ha : h_ib a 24
  · by_cases hb : h_ib b 5
    · by_cases hc : h_ib c 10
      · obtain ⟨t, ht, ht2, rfl⟩ := ib_ex ha
        simp only [if_pos ha, if_pos hb, if_pos hc, Option.bind_some, nI_clamp ht2, (h.gust ht).1, (h.gust ht).2.1]
        refine EqC.now (h.now ?_ ?_ ?_ ?_ ?_)
        · intro q _ h2; simp (disch := omega) only [m_row]
        · simp (disch := omega) only [m_row]
        · intro q _ h2; simp (disch := omega) only [m_row]
        · intro j hj _ _ _; simp (disch := omega) only [m_row, m_own, u_n]
        · intro T _ _ _ n
          refine gNow_g n ?_ ?_ ?_ ?_
          · intro q _ _ _ _; simp (disch := omega) only [m_row]
          · intro q _ _ _ _; simp (disch := omega) only [m_row]
          · intro j hj; simp (disch := omega) only [m_row]
          · intro u hu
            simp (disch := omega) only [m_row, m_own]
            simp only [u_e]
            by_cases e : u = t
            · simp only [if_pos e]; exact ⟨trivial, trivial, hb, hc⟩
            · simp only [if_neg e]; exact n.2.1 u hu
      · simp only [if_pos ha, if_pos hb, if_neg hc]; exact EqC.now h
    · simp only [if_pos ha, if_neg hb]; exact EqC.now h
  · simp only [if_neg ha]; exact EqC.now h
end
section
/-! WHAT A TEXT SAYS: a pure reader of its code; both machines say the same -/
def unW (w a : Int32) : Int32 := if w = -19 then -a else if a = 0 then 1 else 0
def biW (w a b : Int32) : Int32 := fX4_joined w a b (fun _ _ => 0)
def evR (c nm : Nat → Int32) : Nat → Nat → List Int32 → Int32
  | 0, _, s => s.getLastD 0
  | n + 1, i, s => if -6 ≤ c i then evR c nm n (i + 1) ((if c i < 0 then nm (-1 - c i).toNatClampNeg else c i) :: s)
    else if c i = -13 ∨ c i = -19 then (match s with | [] => 0 | a :: r => evR c nm n (i + 1) (unW (c i) a :: r))
    else (match s with | b :: a :: r => evR c nm n (i + 1) (biW (c i) a b :: r) | _ => 0)
theorem evR_s (c nm : Nat → Int32) (n i : Nat) (s : List Int32) : evR c nm (n + 1) i s = if -6 ≤ c i then evR c nm n (i + 1) ((if c i < 0 then nm (-1 - c i).toNatClampNeg else c i) :: s)
    else if c i = -13 ∨ c i = -19 then (match s with | [] => 0 | a :: r => evR c nm n (i + 1) (unW (c i) a :: r))
    else (match s with | b :: a :: r => evR c nm n (i + 1) (biW (c i) a b :: r) | _ => 0) := rfl
def bndV (p : Nat) (v : Int32) : Int32 := if p = 0 then (if 0 ≤ v then (if v ≤ 9 then v else 9) else 0) else if p = 1 then h_rem (h_rem v 3 + 3) 3 else (if -99 ≤ v then (if v ≤ 99 then v else 99) else -99)
def evX (c e : Nat → Int32) (p : Nat) (nm : Nat → Int32) : Int32 :=
  let lo := if p = 0 then 0 else (e (p - 1)).toNatClampNeg
  bndV p (evR c nm ((e p).toNatClampNeg - lo) lo [])
/-- a row holds a stack -/
def stR (P : Nat → Int32) : List Int32 → Prop
  | [] => True
  | a :: r => P r.length = a ∧ stR P r
theorem stR_upd {P : Nat → Int32} {k : Nat} {v : Int32} : ∀ {r : List Int32}, r.length ≤ k → stR P r → stR (upd P k v) r
  | [], _, _ => trivial
  | a :: r, hk, h => by
    have h1 : r.length + 1 ≤ k := hk
    exact ⟨by rw [u_n (by omega)]; exact h.1, stR_upd (by omega) h.2⟩
theorem stR_last {P : Nat → Int32} : ∀ {s : List Int32}, s ≠ [] → stR P s → P 0 = s.getLastD 0
  | [], h, _ => absurd rfl h
  | [a], _, h => h.1
  | a :: b :: r, _, h => by
    have := stR_last (s := b :: r) (by simp) h.2
    rw [this]; rfl
theorem w_op {w : Int32} (h : w = -11 ∨ w = -12 ∨ w = -14 ∨ w = -15 ∨ w = -16 ∨ w = -17 ∨ w = -18) : w < -6 ∧ ¬ -6 ≤ w ∧ ¬ w = -13 ∧ ¬ w = -19 ∧ ¬ (w = -13 ∨ w = -19) := by
  rcases h with rfl | rfl | rfl | rfl | rfl | rfl | rfl <;> decide
theorem w_un {w : Int32} (h : w = -13 ∨ w = -19) : w < -6 ∧ ¬ -6 ≤ w := by
  rcases h with rfl | rfl <;> decide
theorem nI_sub1 {a : Nat} (h : 1 ≤ a) : nI a - 1 = nI (a - 1) := pk_sub (a := a) (b := 1) h
theorem nI_addm1 {a : Nat} (h : 1 ≤ a) : nI a + -1 = nI (a - 1) := sb_m1 h
theorem w_nm {w : Int32} (h1 : -6 ≤ w) (h2 : w < 0) : ∃ j, j < 6 ∧ -1 - w = nI j := by
  have a1 : (-6 : Int) ≤ w.toInt := by have := Int32.le_iff_toInt_le.mp h1; rwa [show (-6 : Int32).toInt = -6 from by decide] at this
  have a2 := (lt0_int w).mp h2
  have a3 : (-1 : Int32).toInt = -1 := by decide
  refine ⟨(-1 - w.toInt).toNat, by omega, ?_⟩
  apply Int32.toInt_inj.mp
  rw [fb_subI (by rw [a3]; omega) (by rw [a3]; omega), nI_toInt (by omega), a3]
  omega
theorem nn_bit (x : Int32) : 0 ≤ x ↔ bt x 31 = false := by
  have h1 : bt x 31 = x.toBitVec.msb := (BitVec.msb_eq_getLsbD_last x.toBitVec).symm
  rw [h1, BitVec.msb_eq_toInt, Jvm.Kit.i32_nonneg]
  have : x.toInt = x.toBitVec.toInt := rfl
  rw [← this]
  simp
theorem xor3 (v : Int32) : 0 ≤ v ^^^ 3 ↔ 0 ≤ v := by
  rw [nn_bit, nn_bit, b_xor, show bt 3 31 = false from by decide, Bool.xor_false]
theorem rem3 (v : Int32) : ∃ n : Nat, (v.toInt = n ∧ (h_rem v 3).toInt = (n % 3 : Nat)) ∨ (v.toInt = -(n : Int) ∧ (h_rem v 3).toInt = -((n % 3 : Nat) : Int)) := by
  have a1 := v.toInt_lt
  have a2 := v.le_toInt
  have h3 : (3 : Int32).toInt = 3 := by decide
  have hd : (v / 3).toInt = v.toInt.tdiv 3 := by rw [Jvm.Kit.i32_div (by rw [h3]; omega), h3]
  rcases Int.eq_nat_or_neg v.toInt with ⟨n, h | h⟩
  · refine ⟨n, Or.inl ⟨h, ?_⟩⟩
    have e : (v / 3).toInt = ((n / 3 : Nat) : Int) := by rw [hd, h]; rfl
    have e2 : (v / 3 * 3).toInt = ((n / 3 : Nat) : Int) * 3 := by rw [fb_mulI (by rw [e, h3]; omega) (by rw [e, h3]; omega), e, h3]
    show (v - v / 3 * 3).toInt = _
    rw [fb_subI (by rw [e2]; omega) (by rw [e2]; omega), e2, h]
    omega
  · refine ⟨n, Or.inr ⟨h, ?_⟩⟩
    have e : (v / 3).toInt = -((n / 3 : Nat) : Int) := by rw [hd, h, Int.neg_tdiv]; rfl
    have e2 : (v / 3 * 3).toInt = -((n / 3 : Nat) : Int) * 3 := by rw [fb_mulI (by rw [e, h3]; omega) (by rw [e, h3]; omega), e, h3]
    show (v - v / 3 * 3).toInt = _
    rw [fb_subI (by rw [e2]; omega) (by rw [e2]; omega), e2, h]
    omega
theorem mod3 (v : Int32) (M : hMem) : fJ9_floorMod_7cf53 v 3 M = some (h_rem (h_rem v 3 + 3) 3) := by
  unfold fJ9_floorMod_7cf53
  rw [if_neg (by decide)]
  obtain ⟨n, ⟨h1, h2⟩ | ⟨h1, h2⟩⟩ := rem3 v
  · rw [if_pos ((xor3 v).mpr (Jvm.Kit.i32_nonneg.mpr (by omega)))]
    have e : h_rem v 3 = nI (n % 3) := Int32.toInt_inj.mp (by rw [h2, nI_toInt (by omega)])
    rw [e]
    have hh : n % 3 < 3 := Nat.mod_lt _ (by decide)
    rcases (by omega : n % 3 = 0 ∨ n % 3 = 1 ∨ n % 3 = 2) with q | q | q <;> rw [q] <;> decide
  · have hh : n % 3 < 3 := Nat.mod_lt _ (by decide)
    rcases (by omega : n % 3 = 0 ∨ n % 3 = 1 ∨ n % 3 = 2) with q | q | q
    · have e : h_rem v 3 = 0 := Int32.toInt_inj.mp (by rw [h2, q]; decide)
      rw [e]
      by_cases c : 0 ≤ v ^^^ 3
      · rw [if_pos c]; decide
      · rw [if_neg c]; decide
    · have e : h_rem v 3 = -1 := Int32.toInt_inj.mp (by rw [h2, q]; decide)
      have c : ¬ 0 ≤ v ^^^ 3 := fun h => by
        have := Jvm.Kit.i32_nonneg.mp ((xor3 v).mp h)
        have : n = 0 := by omega
        omega
      rw [if_neg c, e]; decide
    · have e : h_rem v 3 = -2 := Int32.toInt_inj.mp (by rw [h2, q]; decide)
      have c : ¬ 0 ≤ v ^^^ 3 := fun h => by
        have := Jvm.Kit.i32_nonneg.mp ((xor3 v).mp h)
        have : n = 0 := by omega
        omega
      rw [if_neg c, e]; decide
theorem wb_x {p : Nat} (hp : p < 3) (v : Int32) (M : hMem) : fX4_withinBounds (nI p) v M = some (bndV p v) := by
  rcases (by omega : p = 0 ∨ p = 1 ∨ p = 2) with rfl | rfl | rfl
  · rfl
  · unfold fX4_withinBounds
    rw [if_neg (by decide), if_pos (show nI 1 = 1 from rfl), mod3]
    rfl
  · rfl
set_option maxHeartbeats 1000000 in
theorem x_saysL {c e nm : Nat → Int32} {k0 p lo hi : Nat} {X : hMem} (hp : p < 3) (hhi : hi ≤ 160) (hc : X (k0 + 1) = c) (he : X (k0 + 2) = e) (hn : X 48 = nm) (hk : k0 + 3 ≠ 48) (hep : e p = nI hi) (hlo : lo ≤ hi) (hw : wfR c (hi - lo) lo 0) : ∃ r, h_lp (fX4_says_L31 k0 (nI p)) h_FU (0, nI lo, X) = some r ∧ (r.1 = bndV p (evR c nm (hi - lo) lo []) ∧ ∀ a, a ≠ k0 + 3 → r.2 a = X a) := by
  refine lp_up (body := fX4_says_L31 k0 (nI p)) hi (fun i s => ∃ (st : List Int32) (Y : hMem), s = (nI st.length, nI i, Y) ∧ (∀ a, a ≠ k0 + 3 → Y a = X a) ∧ stR (Y (k0 + 3)) st ∧ st.length ≤ 40 ∧ lo ≤ i ∧ wfR c (hi - i) i st.length ∧ evR c nm (hi - i) i st = evR c nm (hi - lo) lo []) _ ?_ ?_ h_FU lo _ hlo ⟨[], X, rfl, fun _ _ => rfl, trivial, Nat.zero_le _, Nat.le_refl _, hw, rfl⟩ (by unfold h_FU; omega)
  · rintro k s ⟨st, Y, rfl, hY, hst, hl, hlo', hwf, hev⟩
    rw [Nat.sub_self] at hwf hev
    have h1 : 1 ≤ st.length := hwf
    have hne : st ≠ [] := by intro h; rw [h] at h1; exact absurd h1 (by decide)
    refine ⟨(bndV p (evR c nm (hi - lo) lo []), Y), ?_, rfl, hY⟩
    · unfold fX4_says_L31
      simp only []
      rw [if_pos (ib_mk hp (by decide)), nI_clamp (by omega), hY (k0 + 2) (by omega), he, hep, if_pos (nI_le (Nat.le_refl _) (by omega)), wb_x hp, Option.bind_some, stR_last hne hst, ← hev]
      rfl
  · rintro k i s hi1 ⟨st, Y, rfl, hY, hst, hl, hlo', hwf, hev⟩ hk1
    obtain ⟨n, hn1⟩ : ∃ n, hi - i = n + 1 := ⟨hi - i - 1, by omega⟩
    have hn2 : hi - (i + 1) = n := by omega
    rw [hn1] at hwf hev
    have hYc : Y (k0 + 1) = c := by rw [hY _ (by omega), hc]
    have hY48 : Y 48 = nm := by rw [hY _ (by omega), hn]
    unfold fX4_says_L31
    simp only []
    rw [if_pos (ib_mk hp (by decide)), nI_clamp (by omega), hY (k0 + 2) (by omega), he, hep, if_neg (nI_ge hi1 (by omega)), if_pos (ib_mk (by omega) (by decide)), nI_clamp (by omega), hYc, hY48]
    rw [evR_s] at hev
    rcases hwf with ⟨w1, w2, w3, w4⟩ | ⟨w1, w3, w4⟩ | ⟨w1, w3, w4⟩
    · rw [if_neg (fun h => nlt_le.mp h w1), if_neg (fun h => by have := (nI_leI (a := 40) (by decide) (by omega)).mp h; omega)]
      rw [if_pos w1] at hev
      by_cases hz : c i < 0
      · obtain ⟨j, hj, ej⟩ := w_nm w1 hz
        rw [if_pos hz, ej, if_pos (ib_mk hj (by decide)), if_pos (ib_mk w3 (by decide)), nI_clamp (by omega), nI_clamp (by omega), nI_1, nI_1]
        rw [if_pos hz, ej, nI_clamp (by omega)] at hev
        refine hk1 _ ⟨nm j :: st, _, rfl, ?_, ?_, by simp only [List.length_cons]; omega, by omega, by rw [hn2]; exact w4, by rw [hn2]; exact hev⟩
        · intro a ha; rw [m_row ha]; exact hY a ha
        · rw [m_own]; exact ⟨u_s _ _ _, stR_upd (Nat.le_refl _) hst⟩
      · rw [if_neg hz, if_pos (ib_mk w3 (by decide)), nI_clamp (by omega), nI_1, nI_1]
        rw [if_neg hz] at hev
        refine hk1 _ ⟨c i :: st, _, rfl, ?_, ?_, by simp only [List.length_cons]; omega, by omega, by rw [hn2]; exact w4, by rw [hn2]; exact hev⟩
        · intro a ha; rw [m_row ha]; exact hY a ha
        · rw [m_own]; exact ⟨u_s _ _ _, stR_upd (Nat.le_refl _) hst⟩
    · have hu := w_un w1
      rw [if_neg hu.2, if_pos w1] at hev
      cases st with
      | nil => exact absurd w3 (by decide)
      | cons a r =>
        simp only [List.length_cons] at *
        have key : ∃ q, fX4_says_L106 k k0 (nI p) (nI (r.length + 1)) (nI i) (c i) Y = some q ∧ (q.1 = bndV p (evR c nm (hi - lo) lo []) ∧ ∀ a, a ≠ k0 + 3 → q.2 a = X a) := by
          unfold fX4_says_L106
          rw [if_neg (fun h => by have := (nI_ltI (b := 1) (by omega) (by decide)).mp h; omega), nI_sub1 (by omega), if_pos (ib_mk (by omega) (by decide)), if_pos (ib_mk (by omega) (by decide)), nI_clamp (by omega), nI_1]
          refine hk1 _ ⟨unW (c i) a :: r, _, rfl, ?_, ?_, by simp only [List.length_cons]; omega, by omega, by rw [hn2]; exact w4, by rw [hn2]; exact hev⟩
          · intro b hb; rw [m_row hb]; exact hY b hb
          · rw [m_own]
            refine ⟨?_, stR_upd (Nat.le_refl _) hst.2⟩
            rw [Nat.add_sub_cancel, u_s, hst.1]
            rfl
        rw [if_pos hu.1]
        rcases w1 with e1 | e1
        · rw [if_pos e1]; exact key
        · rw [if_neg (by rw [e1]; decide), if_pos e1]; exact key
    · obtain ⟨o1, o2, o3, o4, o5⟩ := w_op w1
      rw [if_neg o2, if_neg o5] at hev
      cases st with
      | nil => exact absurd w3 (by decide)
      | cons b r' =>
        cases r' with
        | nil => exact absurd w3 (by simp only [List.length_cons, List.length_nil]; omega)
        | cons a r =>
          simp only [List.length_cons] at *
          rw [if_pos o1, if_neg o3, if_neg o4, if_neg (fun h => by have := (nI_ltI (b := 2) (by omega) (by decide)).mp h; omega), nI_addm1 (by omega), nI_sub1 (by omega), if_pos (ib_mk (by omega) (by decide)), if_pos (ib_mk (by omega) (by decide)), if_pos (ib_mk (by omega) (by decide)), nI_clamp (by omega), nI_clamp (by omega), nI_1]
          refine hk1 _ ⟨biW (c i) a b :: r, _, rfl, ?_, ?_, by simp only [List.length_cons]; omega, by omega, by rw [hn2]; exact w4, by rw [hn2]; exact hev⟩
          · intro q hq; rw [m_row hq]; exact hY q hq
          · rw [m_own]
            refine ⟨?_, stR_upd (Nat.le_refl _) hst.2.2⟩
            have e1 : r.length + 1 + 1 - 1 - 1 = r.length := by omega
            have e2 : r.length + 1 + 1 - 1 = r.length + 1 := by omega
            have s1 : Y (k0 + 3) (r.length + 1) = b := hst.1
            rw [e1, e2, u_s, s1, hst.2.1]
            rfl
theorem x_says {c e nm : Nat → Int32} {T p : Nat} {X : hMem} {mc ms : Nat → Int32} (hT : T < 6) (hp : p < 3) (hg : gText c e mc ms) (hc : X (57 + 4 * T) = c) (he : X (58 + 4 * T) = e) (hn : X 48 = nm) : ∃ X', fX4_says (56 + 4 * T) (nI p) X = some (evX c e p nm, X') ∧ ∀ a, a ≠ 59 + 4 * T → X' a = X a := by
  obtain ⟨e0, e1, e2, g0, g1, g2, l0, l1, l2, w0, w1, w2, -⟩ := hg
  have hB : h_isB hYx (56 + 4 * T) 3 0 = true := h_forall (N := 6) (p := fun T => h_isB hYx (56 + 4 * T) 3 0) (by decide +kernel) hT
  have hc' : X (56 + 4 * T + 1) = c := by rw [show 56 + 4 * T + 1 = 57 + 4 * T from by omega]; exact hc
  have he' : X (56 + 4 * T + 2) = e := by rw [show 56 + 4 * T + 2 = 58 + 4 * T from by omega]; exact he
  have fr : 56 + 4 * T + 3 = 59 + 4 * T := by omega
  unfold fX4_says
  rw [if_pos hB, if_neg (nI_pos (by omega)), if_pos (show nI p < (3 : Int32) from nI_lt (b := 3) hp (by decide)), he']
  rcases (by omega : p = 0 ∨ p = 1 ∨ p = 2) with rfl | rfl | rfl
  · rw [if_pos (show nI 0 = 0 from rfl)]
    obtain ⟨r, q1, q2, q3⟩ := x_saysL (k0 := 56 + 4 * T) (p := 0) (lo := 0) (hi := e0) hp (by omega) hc' he' hn (by omega) g0 (by omega) w0
    refine ⟨r.2, ?_, fun a ha => q3 a (by omega)⟩
    rw [show ((0 : Int32), (0 : Int32), X) = (0, nI 0, X) from rfl, q1]
    unfold evX
    simp only [g0, nI_clamp (show e0 < 2 ^ 31 by omega), if_true]
    rw [← q2]
  · rw [if_neg (show ¬ nI 1 = 0 from by decide), if_pos (show h_ib (nI 1 - 1) 3 from ib_mk (j := 0) (by omega) (by omega)), show (nI 1 - 1).toNatClampNeg = 0 from by decide, g0]
    obtain ⟨r, q1, q2, q3⟩ := x_saysL (k0 := 56 + 4 * T) (p := 1) (lo := e0) (hi := e1) hp (by omega) hc' he' hn (by omega) g1 (by omega) w1
    refine ⟨r.2, ?_, fun a ha => q3 a (by omega)⟩
    rw [q1]
    unfold evX
    simp only [g1, g0, nI_clamp (show e0 < 2 ^ 31 by omega), nI_clamp (show e1 < 2 ^ 31 by omega), if_neg (show ¬ 1 = 0 by omega), Nat.sub_self]
    rw [← q2]
  · rw [if_neg (show ¬ nI 2 = 0 from by decide), if_pos (show h_ib (nI 2 - 1) 3 from ib_mk (j := 1) (by omega) (by omega)), show (nI 2 - 1).toNatClampNeg = 1 from by decide, g1]
    obtain ⟨r, q1, q2, q3⟩ := x_saysL (k0 := 56 + 4 * T) (p := 2) (lo := e1) (hi := e2) hp (by omega) hc' he' hn (by omega) g2 (by omega) w2
    refine ⟨r.2, ?_, fun a ha => q3 a (by omega)⟩
    rw [q1]
    unfold evX
    simp only [g1, g2, nI_clamp (show e1 < 2 ^ 31 by omega), nI_clamp (show e2 < 2 ^ 31 by omega), if_neg (show ¬ 2 = 0 by omega), show 2 - 1 = 1 from rfl]
    rw [← q2]
/-! the other one's -/
theorem trW_num {w : Int32} (h0 : ¬ w < 0) (h1 : w ≤ 9999) : ∃ j, j ≤ 9999 ∧ w = nI j ∧ trW w = nI (100000 + j) := by
  obtain ⟨j, hj, rfl⟩ := nI_of2 (M := 9999) (n := 9999) (by decide) h0 h1
  refine ⟨j, hj, rfl, ?_⟩
  unfold trW
  rw [if_pos (nI_pos' (by omega)), show (100000 : Int32) = nI 100000 from rfl, nI_add]
theorem trW_nm {w : Int32} (h1 : -6 ≤ w) (h0 : w < 0) : trW w = -1 - w := by
  unfold trW
  rw [if_neg (nlt_le.mp h0), if_pos h1]
theorem m_two {w a b : Int32} (h : w = -11 ∨ w = -12 ∨ w = -14 ∨ w = -15 ∨ w = -16 ∨ w = -17 ∨ w = -18) (M : hMem) : fX10_two (trW w) a b M = biW w a b := by
  rcases h with rfl | rfl | rfl | rfl | rfl | rfl | rfl <;> rfl
theorem trW_op {w : Int32} (h : w = -11 ∨ w = -12 ∨ w = -14 ∨ w = -15 ∨ w = -16 ∨ w = -17 ∨ w = -18) : ¬ (100000 : Int32) ≤ trW w ∧ (11 : Int32) ≤ trW w ∧ ¬ trW w = 13 ∧ ¬ trW w = 19 := by
  rcases h with rfl | rfl | rfl | rfl | rfl | rfl | rfl <;> decide
set_option maxHeartbeats 1000000 in
theorem m_saysL {c nm : Nat → Int32} {r p lo hi : Nat} {M : hMem} (hr : r < 6) (hp : p < 3) (hhi : hi ≤ 160) (h15 : M 0 15 = nI r) (hms : M 11 (4 * r + p + 1) = nI hi) (hcode : ∀ i, i < hi → M 10 (200 * r + i) = trW (c i)) (hn : M 20 = nm) (hlo : lo ≤ hi) (hw : wfR c (hi - lo) lo 0) : ∃ q, h_lp (fX10_says_L16 (nI p)) h_FU (0, nI lo, M) = some q ∧ (q.1 = evR c nm (hi - lo) lo [] ∧ ∀ a, a ≠ 19 → q.2 a = M a) := by
  have e1 : (4 : Int32) * nI r + nI p + 1 = nI (4 * r + p + 1) := by
    rw [show (4 : Int32) = nI 4 from rfl, pk_mul, nI_add, nI_1]
  refine lp_up (body := fX10_says_L16 (nI p)) hi (fun i s => ∃ (st : List Int32) (Y : hMem), s = (nI st.length, nI i, Y) ∧ (∀ a, a ≠ 19 → Y a = M a) ∧ stR (Y 19) st ∧ st.length ≤ 40 ∧ lo ≤ i ∧ wfR c (hi - i) i st.length ∧ evR c nm (hi - i) i st = evR c nm (hi - lo) lo []) _ ?_ ?_ h_FU lo _ hlo ⟨[], M, rfl, fun _ _ => rfl, trivial, Nat.zero_le _, Nat.le_refl _, hw, rfl⟩ (by unfold h_FU; omega)
  · rintro k s ⟨st, Y, rfl, hY, hst, hl, hlo', hwf, hev⟩
    rw [Nat.sub_self] at hwf hev
    have h1 : 1 ≤ st.length := hwf
    have hne : st ≠ [] := by intro h; rw [h] at h1; exact absurd h1 (by decide)
    refine ⟨(evR c nm (hi - lo) lo [], Y), ?_, rfl, hY⟩
    unfold fX10_says_L16
    simp only []
    rw [hY 0 (by omega), h15, e1, if_pos (ib_mk (by omega) (by decide)), nI_clamp (by omega), hY 11 (by omega), hms, if_pos (nI_le (Nat.le_refl _) (by omega)), stR_last hne hst, ← hev]
    rfl
  · rintro k i s hi1 ⟨st, Y, rfl, hY, hst, hl, hlo', hwf, hev⟩ hk1
    obtain ⟨n, hn1⟩ : ∃ n, hi - i = n + 1 := ⟨hi - i - 1, by omega⟩
    have hn2 : hi - (i + 1) = n := by omega
    rw [hn1] at hwf hev
    have e2 : (200 : Int32) * nI r + nI i = nI (200 * r + i) := by
      rw [show (200 : Int32) = nI 200 from rfl, pk_mul, nI_add]
    have hY20 : Y 20 = nm := by rw [hY _ (by omega), hn]
    unfold fX10_says_L16
    simp only []
    rw [hY 0 (by omega), h15, e1, if_pos (ib_mk (by omega) (by decide)), nI_clamp (by omega), hY 11 (by omega), hms, if_neg (nI_ge hi1 (by omega)), e2, if_pos (ib_mk (by omega) (by decide)), nI_clamp (by omega), hY 10 (by omega), hcode i hi1]
    rw [evR_s] at hev
    rcases hwf with ⟨w1, w2, w3, w4⟩ | ⟨w1, w3, w4⟩ | ⟨w1, w3, w4⟩
    · rw [if_pos w1] at hev
      by_cases hz : c i < 0
      · obtain ⟨j, hj, ej⟩ := w_nm w1 hz
        rw [if_pos hz, ej, nI_clamp (by omega)] at hev
        rw [trW_nm w1 hz, ej, if_neg (show ¬ (100000 : Int32) ≤ nI j from nI_ge (b := 100000) (by omega) (by decide)), if_neg (show ¬ (11 : Int32) ≤ nI j from nI_ge (b := 11) (by omega) (by decide))]
        unfold fX10_says_L66
        rw [if_neg (show ¬ (11 : Int32) ≤ nI j from nI_ge (b := 11) (by omega) (by decide)), if_pos (ib_mk hj (by decide)), if_pos (ib_mk (by omega) (by decide)), nI_clamp (by omega), nI_clamp (by omega), nI_1, nI_1, hY20]
        refine hk1 _ ⟨nm j :: st, _, rfl, ?_, ?_, by simp only [List.length_cons]; omega, by omega, by rw [hn2]; exact w4, by rw [hn2]; exact hev⟩
        · intro a ha; rw [m_row ha]; exact hY a ha
        · rw [m_own]; exact ⟨u_s _ _ _, stR_upd (Nat.le_refl _) hst⟩
      · obtain ⟨j, hj, ej, et⟩ := trW_num hz w2
        rw [if_neg hz] at hev
        rw [et, if_pos (show (100000 : Int32) ≤ nI (100000 + j) from nI_le (a := 100000) (by omega) (by omega))]
        unfold fX10_says_L66
        rw [if_pos (show (11 : Int32) ≤ nI (100000 + j) from nI_le (a := 11) (by omega) (by omega)), if_pos (ib_mk (by omega) (by decide)), nI_clamp (by omega), nI_1, nI_1, show (100000 : Int32) = nI 100000 from rfl, pk_sub (by omega), Nat.add_sub_cancel_left, ← ej]
        refine hk1 _ ⟨c i :: st, _, rfl, ?_, ?_, by simp only [List.length_cons]; omega, by omega, by rw [hn2]; exact w4, by rw [hn2]; exact hev⟩
        · intro a ha; rw [m_row ha]; exact hY a ha
        · rw [m_own]; exact ⟨u_s _ _ _, stR_upd (Nat.le_refl _) hst⟩
    · have hu := w_un w1
      rw [if_neg hu.2, if_pos w1] at hev
      cases st with
      | nil => exact absurd w3 (by decide)
      | cons a r2 =>
        simp only [List.length_cons] at *
        have s1 : Y 19 r2.length = a := hst.1
        have key : ∃ q, k (nI (r2.length + 1), nI i + 1, h_up Y 19 r2.length (unW (c i) a)) = some q ∧ (q.1 = evR c nm (hi - lo) lo [] ∧ ∀ a, a ≠ 19 → q.2 a = M a) := by
          rw [nI_1]
          refine hk1 _ ⟨unW (c i) a :: r2, _, rfl, ?_, ?_, by simp only [List.length_cons]; omega, by omega, by rw [hn2]; exact w4, by rw [hn2]; exact hev⟩
          · intro b hb; rw [m_row hb]; exact hY b hb
          · rw [m_own]; exact ⟨u_s _ _ _, stR_upd (Nat.le_refl _) hst.2⟩
        rcases w1 with e1 | e1
        · rw [e1, show trW (-13) = 13 from by decide, if_neg (by decide), if_pos (by decide), if_pos rfl]
          simp only [nI_sub1 (show 1 ≤ r2.length + 1 by omega), Nat.add_sub_cancel, nI_clamp (show r2.length < 2 ^ 31 by omega), s1]
          rw [if_pos (ib_mk (by omega) (by decide))]
          rw [e1] at key
          by_cases hz : a = 0
          · rw [if_pos hz, if_pos (ib_mk (by omega) (by decide))]
            rw [show unW (-13) a = 1 from by unfold unW; rw [if_neg (by decide), if_pos hz]] at key
            exact key
          · rw [if_neg hz, if_pos (ib_mk (by omega) (by decide))]
            rw [show unW (-13) a = 0 from by unfold unW; rw [if_neg (by decide), if_neg hz]] at key
            exact key
        · rw [e1, show trW (-19) = 19 from by decide, if_neg (by decide), if_pos (by decide), if_neg (by decide), if_pos rfl]
          simp only [nI_sub1 (show 1 ≤ r2.length + 1 by omega), Nat.add_sub_cancel, nI_clamp (show r2.length < 2 ^ 31 by omega), s1]
          rw [if_pos (ib_mk (by omega) (by decide)), if_pos (ib_mk (by omega) (by decide))]
          rw [e1] at key
          exact key
    · obtain ⟨o1, o2, o3, o4, o5⟩ := w_op w1
      obtain ⟨t1, t2, t3, t4⟩ := trW_op w1
      rw [if_neg o2, if_neg o5] at hev
      cases st with
      | nil => exact absurd w3 (by decide)
      | cons b r' =>
        cases r' with
        | nil => exact absurd w3 (by simp only [List.length_cons, List.length_nil]; omega)
        | cons a r2 =>
          simp only [List.length_cons] at *
          rw [if_neg t1, if_pos t2, if_neg t3, if_neg t4, nI_addm1 (by omega), nI_sub1 (by omega), if_pos (ib_mk (by omega) (by decide)), if_pos (ib_mk (by omega) (by decide)), if_pos (ib_mk (by omega) (by decide)), nI_clamp (by omega), nI_clamp (by omega), nI_1, m_two w1]
          refine hk1 _ ⟨biW (c i) a b :: r2, _, rfl, ?_, ?_, by simp only [List.length_cons]; omega, by omega, by rw [hn2]; exact w4, by rw [hn2]; exact hev⟩
          · intro q hq; rw [m_row hq]; exact hY q hq
          · rw [m_own]
            refine ⟨?_, stR_upd (Nat.le_refl _) hst.2.2⟩
            have e1 : r2.length + 1 + 1 - 1 - 1 = r2.length := by omega
            have e2 : r2.length + 1 + 1 - 1 = r2.length + 1 := by omega
            have s1 : Y 19 (r2.length + 1) = b := hst.1
            have s2 : Y 19 r2.length = a := hst.2.1
            rw [e1, e2, u_s, s1, s2]
def nmS (s l mo t c k : Int32) : Nat → Int32 := fun j => match j with | 0 => s | 1 => l | 2 => mo | 3 => t | 4 => c | _ => k
theorem bnd_m {p : Nat} (hp : p < 3) (v : Int32) (M : hMem) : (if nI p = 0 then some (fX10_within v 0 9 M, M) else if nI p = 2 then some (fX10_within v (-99) 99 M, M) else some (h_rem (h_rem v 3 + 3) 3, M)) = some (bndV p v, M) := by
  rcases (by omega : p = 0 ∨ p = 1 ∨ p = 2) with rfl | rfl | rfl
  · rfl
  · rfl
  · rfl
theorem m_asksOf {c e : Nat → Int32} {r p : Nat} {M : hMem} {s l mo t q k : Int32} (hr : r < 6) (hp : p < 3) (h15 : M 0 15 = nI r) (hg : gText c e (fun i => M 10 (200 * r + i)) (fun j => M 11 (4 * r + j))) (h6 : ∀ j, 6 ≤ j → True) : ∃ M', fX10_asksOf (nI p) s l mo t q k M = some (evX c e p (fun j => if j < 6 then nmS s l mo t q k j else M 20 j), M') ∧ ∀ a, a ≠ 19 → a ≠ 20 → M' a = M a := by
  obtain ⟨e0, e1, e2, g0, g1, g2, l0, l1, l2, w0, w1, w2, hcd, m0, m1, m2, m3⟩ := hg
  have hq : ∀ (lo hi : Nat), lo ≤ hi → hi ≤ e2 → wfR c (hi - lo) lo 0 → M 11 (4 * r + p + 1) = nI hi → M 11 (4 * r + p) = nI lo → ∃ M', fX10_asksOf (nI p) s l mo t q k M = some (bndV p (evR c (fun j => if j < 6 then nmS s l mo t q k j else M 20 j) (hi - lo) lo []), M') ∧ ∀ a, a ≠ 19 → a ≠ 20 → M' a = M a := by
    intro lo hi h1 h2 h3 h4 h5
    unfold fX10_asksOf fX10_says
    have r20 : ∀ a, a ≠ 20 → (h_up (h_up (h_up (h_up (h_up (h_up M 20 0 s) 20 1 l) 20 2 mo) 20 3 t) 20 4 q) 20 5 k) a = M a := fun a ha => by
      rw [m_row ha, m_row ha, m_row ha, m_row ha, m_row ha, m_row ha]
    have hn : (h_up (h_up (h_up (h_up (h_up (h_up M 20 0 s) 20 1 l) 20 2 mo) 20 3 t) 20 4 q) 20 5 k) 20 = (fun j => if j < 6 then nmS s l mo t q k j else M 20 j) := by
      funext j
      simp only [m_own, u_e]
      by_cases hj : j < 6
      · rw [if_pos hj]
        rcases (by omega : j = 0 ∨ j = 1 ∨ j = 2 ∨ j = 3 ∨ j = 4 ∨ j = 5) with rfl | rfl | rfl | rfl | rfl | rfl <;> rfl
      · rw [if_neg hj, if_neg (by omega), if_neg (by omega), if_neg (by omega), if_neg (by omega), if_neg (by omega), if_neg (by omega)]
    generalize (h_up (h_up (h_up (h_up (h_up (h_up M 20 0 s) 20 1 l) 20 2 mo) 20 3 t) 20 4 q) 20 5 k) = N at r20 hn ⊢
    have n15 : N 0 15 = nI r := by rw [r20 0 (by omega)]; exact h15
    rw [n15, show (4 : Int32) * nI r + nI p = nI (4 * r + p) from by rw [show (4 : Int32) = nI 4 from rfl, pk_mul, nI_add], if_pos (ib_mk (by omega) (by decide)), nI_clamp (by omega), r20 11 (by omega), h5]
    obtain ⟨z, z1, z2, z3⟩ := m_saysL (c := c) (nm := fun j => if j < 6 then nmS s l mo t q k j else M 20 j) (r := r) (p := p) (lo := lo) (hi := hi) (M := N) hr hp (by omega) n15 (by rw [r20 11 (by omega)]; exact h4) (fun i hi' => by rw [r20 10 (by omega)]; exact hcd i (by omega)) hn h1 h3
    rw [z1, Option.bind_some, z2]
    refine ⟨z.2, bnd_m hp _ _, fun a h19 h20 => ?_⟩
    rw [z3 a h19, r20 a h20]
  rcases (by omega : p = 0 ∨ p = 1 ∨ p = 2) with rfl | rfl | rfl
  · obtain ⟨M', q1, q2⟩ := hq 0 e0 (by omega) (by omega) w0 m1 m0
    refine ⟨M', ?_, q2⟩
    rw [q1]
    unfold evX
    simp only [g0, nI_clamp (show e0 < 2 ^ 31 by omega), if_true]
  · obtain ⟨M', q1, q2⟩ := hq e0 e1 (by omega) (by omega) w1 m2 m1
    refine ⟨M', ?_, q2⟩
    rw [q1]
    unfold evX
    simp only [g1, g0, nI_clamp (show e0 < 2 ^ 31 by omega), nI_clamp (show e1 < 2 ^ 31 by omega), if_neg (show ¬ 1 = 0 by omega), Nat.sub_self]
  · obtain ⟨M', q1, q2⟩ := hq e1 e2 (by omega) (by omega) w2 m3 m2
    refine ⟨M', ?_, q2⟩
    rw [q1]
    unfold evX
    simp only [g1, g2, nI_clamp (show e1 < 2 ^ 31 by omega), nI_clamp (show e2 < 2 ^ 31 by omega), if_neg (show ¬ 2 = 0 by omega), show 2 - 1 = 1 from rfl]
end
section
/-! A SECOND OF A HAT -/
theorem evR_c {c nm nm' : Nat → Int32} (h : ∀ j, j < 6 → nm j = nm' j) : ∀ (n i top : Nat) (s : List Int32), wfR c n i top → evR c nm n i s = evR c nm' n i s
  | 0, _, _, _, _ => rfl
  | n + 1, i, top, s, hw => by
    rw [evR_s, evR_s]
    rcases hw with ⟨w1, w2, w3, w4⟩ | ⟨w1, w3, w4⟩ | ⟨w1, w3, w4⟩
    · rw [if_pos w1, if_pos w1]
      by_cases hz : c i < 0
      · obtain ⟨j, hj, ej⟩ := w_nm w1 hz
        rw [if_pos hz, if_pos hz, ej, nI_clamp (by omega), h j hj]
        exact evR_c h n (i + 1) _ _ w4
      · rw [if_neg hz, if_neg hz]; exact evR_c h n (i + 1) _ _ w4
    · have hu := w_un w1
      rw [if_neg hu.2, if_pos w1, if_neg hu.2, if_pos w1]
      cases s with
      | nil => rfl
      | cons a r => exact evR_c h n (i + 1) _ _ w4
    · obtain ⟨o1, o2, o3, o4, o5⟩ := w_op w1
      rw [if_neg o2, if_neg o5, if_neg o2, if_neg o5]
      cases s with
      | nil => rfl
      | cons b r' =>
        cases r' with
        | nil => rfl
        | cons a r => exact evR_c h n (i + 1) _ _ w4
theorem evX_c {c e mc ms nm nm' : Nat → Int32} {p : Nat} (hp : p < 3) (hg : gText c e mc ms) (h : ∀ j, j < 6 → nm j = nm' j) : evX c e p nm = evX c e p nm' := by
  obtain ⟨e0, e1, e2, g0, g1, g2, l0, l1, l2, w0, w1, w2, -⟩ := hg
  unfold evX
  rcases (by omega : p = 0 ∨ p = 1 ∨ p = 2) with rfl | rfl | rfl
  · simp only [g0, nI_clamp (show e0 < 2 ^ 31 by omega), if_true, Nat.sub_zero]
    rw [evR_c h _ _ _ _ w0]
  · simp only [g1, g0, nI_clamp (show e0 < 2 ^ 31 by omega), nI_clamp (show e1 < 2 ^ 31 by omega), if_neg (show ¬ 1 = 0 by omega), Nat.sub_self]
    rw [evR_c h _ _ _ _ w1]
  · simp only [g1, g2, nI_clamp (show e1 < 2 ^ 31 by omega), nI_clamp (show e2 < 2 ^ 31 by omega), if_neg (show ¬ 2 = 0 by omega), show 2 - 1 = 1 from rfl]
    rw [evR_c h _ _ _ _ w2]
/-- sets, ways, strengths, kind, more, what the text says -/
abbrev hWd : Type := (Nat → Int32) × (Nat → Int32) × (Nat → Int32) × Nat × Nat × (Nat → (Nat → Int32) → Int32)
def nbr (c way : Nat) : Option Nat := if way = 0 then (if 8 ≤ c then some (c - 8) else none) else if way = 1 then (if c % 8 < 7 then some (c + 1) else none) else if way = 2 then (if c + 8 < 32 then some (c + 8) else none) else (if 0 < c % 8 then some (c - 1) else none)
def besS (W : Int32) (c way : Nat) : Option Nat := match nbr c way with | none => none | some d => if bt W d = true then none else some d
def sldS (W P : Int32) (way : Nat) : Nat → Nat → Nat
  | 0, c => c
  | n + 1, c => match besS W c way with | none => c | some d => if bt P d = true then d else sldS W P way n d
theorem sldS_s (W P : Int32) (way n c : Nat) : sldS W P way (n + 1) c = (match besS W c way with | none => c | some d => if bt P d = true then d else sldS W P way n d) := rfl
def farN (k mo v l : Nat) : Nat := min 12 (if (k = 1 ∧ l = 1) ∨ k = 3 then v + 1 + mo / 4 else if k = 2 then min 1 v else if k = 4 then (if 1 < v then v + mo / 2 else min 1 v) else if k = 5 then (if l = 0 then v / 3 else v) - mo else if l = 0 then v / 3 else v)
def eddN (k mo w : Nat) : Nat := if k = 3 then (w + 1 + mo) % 4 else if k = 5 then w else (w + 1) % 4
def stepS (w : hWd) (t : Nat) (s : Nat × Nat) : Nat × Nat :=
  if w.2.1 t = 4 then s else if bt (w.1 1) s.1 = true then s else
  let nm := nmS (w.2.2.1 t) (nI s.2) (nI w.2.2.2.2.1) (nI t) (nI s.1) (nI w.2.2.2.1)
  let wy := (w.2.1 t).toNatClampNeg
  let q := sldS (w.1 0) (w.1 1) (if bt (w.1 2) s.1 = true then eddN w.2.2.2.1 w.2.2.2.2.1 wy else wy) (farN w.2.2.2.1 w.2.2.2.2.1 (w.2.2.2.2.2 0 nm).toNatClampNeg s.2) s.1
  (q, if w.2.2.2.1 = 2 ∨ w.2.2.2.1 = 4 ∨ q = s.1 then s.2 else (s.2 + (w.2.2.2.2.2 1 nm).toNatClampNeg) % 3)
/-- a world in which all is within its bounds -/
def okW (w : hWd) : Prop := (∀ t, t < 24 → h_ib (w.2.1 t) 5) ∧ w.2.2.2.1 < 6 ∧ w.2.2.2.2.1 < 10 ∧ ∀ nm, h_ib (w.2.2.2.2.2 0 nm) 10 ∧ h_ib (w.2.2.2.2.2 1 nm) 3
theorem nbr_lt {c way d : Nat} (hc : c < 32) (h : nbr c way = some d) : d < 32 := by
  unfold nbr at h
  split at h
  · split at h
    · cases h; omega
    · cases h
  · split at h
    · split at h
      · cases h; omega
      · cases h
    · split at h
      · split at h
        · cases h; omega
        · cases h
      · split at h
        · cases h; omega
        · cases h
theorem besS_lt {W : Int32} {c way d : Nat} (hc : c < 32) (h : besS W c way = some d) : d < 32 := by
  unfold besS at h
  cases e : nbr c way with
  | none => rw [e] at h; cases h
  | some f =>
    rw [e] at h
    have hf := nbr_lt hc e
    by_cases hb : bt W f = true
    · simp only [if_pos hb] at h; cases h
    · simp only [if_neg hb] at h; cases h; exact hf
theorem sldS_lt {W P : Int32} {way : Nat} : ∀ (n c : Nat), c < 32 → sldS W P way n c < 32
  | 0, c, hc => hc
  | n + 1, c, hc => by
    unfold sldS
    cases e : besS W c way with
    | none => exact hc
    | some d =>
      have hd := besS_lt hc e
      by_cases hb : bt P d = true
      · simp only [if_pos hb]; exact hd
      · simp only [if_neg hb]; exact sldS_lt n d hd
theorem sldS_none {W P : Int32} {way c : Nat} (h : besS W c way = none) : ∀ n, sldS W P way n c = c
  | 0 => rfl
  | n + 1 => by unfold sldS; rw [h]
theorem ite_lt3 {c : Prop} [Decidable c] {a b : Nat} (ha : a < 3) (hb : b < 3) : (if c then a else b) < 3 := by split <;> assumption
theorem stepS_lt {w : hWd} {t : Nat} {s : Nat × Nat} (h1 : s.1 < 32) (h2 : s.2 < 3) : (stepS w t s).1 < 32 ∧ (stepS w t s).2 < 3 := by
  unfold stepS
  by_cases a : w.2.1 t = 4
  · rw [if_pos a]; exact ⟨h1, h2⟩
  · rw [if_neg a]
    by_cases b : bt (w.1 1) s.1 = true
    · rw [if_pos b]; exact ⟨h1, h2⟩
    · rw [if_neg b]
      refine ⟨sldS_lt _ _ h1, ?_⟩
      exact ite_lt3 h2 (Nat.mod_lt _ (by decide))
/-! x's side -/
theorem dc4 {A B C D : Nat} {p : Nat → Nat → Nat → Nat → Bool} (h : (List.range A).all (fun a => (List.range B).all (fun b => (List.range C).all (fun c => (List.range D).all (fun d => p a b c d)))) = true) {a b c d : Nat} (ha : a < A) (hb : b < B) (hc : c < C) (hd : d < D) : p a b c d = true := dc2 (p := fun c d => p a b c d) (dc2 (p := fun a b => (List.range C).all (fun c => (List.range D).all (fun d => p a b c d))) h ha hb) hc hd
def hM0 : hMem := fun _ _ => 0
theorem x_far {k mo v l : Nat} (hk : k < 6) (hm : mo < 10) (hv : v < 10) (hl : l < 3) (M : hMem) : fX3_far (nI k) (nI mo) (nI v) (nI l) M = nI (farN k mo v l) := by
  have h := dc4 (A := 6) (B := 10) (C := 10) (D := 3) (p := fun k mo v l => decide (fX3_far (nI k) (nI mo) (nI v) (nI l) hM0 = nI (farN k mo v l))) (by decide +kernel) hk hm hv hl
  exact of_decide_eq_true h
theorem x_edd {k mo w : Nat} (hk : k < 6) (hm : mo < 10) (hw : w < 4) (M : hMem) : fX3_eddyWay (nI k) (nI mo) (nI w) M = nI (eddN k mo w) := by
  have h := dc4 (A := 6) (B := 10) (C := 4) (D := 1) (p := fun k mo w _ => decide (fX3_eddyWay (nI k) (nI mo) (nI w) hM0 = nI (eddN k mo w))) (by decide +kernel) hk hm hw (show 0 < 1 by decide)
  exact of_decide_eq_true h
theorem x_turns {k : Nat} (hk : k < 6) (M : hMem) : fX3_turnsOver (nI k) M = some (if k = 2 ∨ k = 4 then 0 else 1) := by
  have h := h_forall (N := 6) (p := fun k => decide (fX3_turnsOver (nI k) hM0 = some (if k = 2 ∨ k = 4 then 0 else 1))) (by decide +kernel) hk
  exact of_decide_eq_true h
theorem x_sqOf {q l : Nat} (hq : q < 32) (hl : l < 3) (M : hMem) : fX9_squareOf (nI (32 * l + q)) M = nI q := by
  unfold fX9_squareOf
  rw [show (32 : Int32) = nI 32 from rfl, n_rem (by omega) (by omega) (by omega)]
  congr 1
  omega
theorem x_lieOf {q l : Nat} (hq : q < 32) (hl : l < 3) (M : hMem) : fX9_lieOf (nI (32 * l + q)) M = nI l := by
  unfold fX9_lieOf
  rw [show (32 : Int32) = nI 32 from rfl, pk_div (by omega) (by omega) (by omega)]
  congr 1
  omega
theorem x_stOf (q l : Nat) (M : hMem) : fX9_stateOf (nI q) (nI l) M = nI (32 * l + q) := by
  unfold fX9_stateOf
  rw [show (32 : Int32) = nI 32 from rfl, pk_mul, nI_add]
  congr 1
  omega
/-- what x's mind holds: the world w, its text being T -/
def MX (w : hWd) (T : Nat) (X : hMem) : Prop := X 40 0 = w.1 0 ∧ X 40 1 = w.1 1 ∧ X 40 2 = w.1 2 ∧ X 40 3 = nI w.2.2.2.1 ∧ X 40 4 = nI w.2.2.2.2.1 ∧ (∀ t, t < 24 → X 45 t = w.2.1 t ∧ X 46 t = w.2.2.1 t) ∧ T < 6 ∧ X 40 6 = nI (56 + 4 * T) ∧ (∃ mc ms, gText (X (57 + 4 * T)) (X (58 + 4 * T)) mc ms) ∧ w.2.2.2.2.2 = evX (X (57 + 4 * T)) (X (58 + 4 * T))
/-- in thought names and a text's pending numbers change, no more -/
def kT (X X' : hMem) : Prop := ∀ a, a ≠ 48 → ¬ (59 ≤ a ∧ a < 80 ∧ a % 4 = 3) → X' a = X a
theorem kT.rf (X : hMem) : kT X X := fun _ _ _ => rfl
theorem kT.tr {X Y Z : hMem} (h : kT X Y) (g : kT Y Z) : kT X Z := fun a h1 h2 => (g a h1 h2).trans (h a h1 h2)
theorem MX.kT {w : hWd} {T : Nat} {X X' : hMem} (h : MX w T X) (k : kT X X') : MX w T X' := by
  obtain ⟨h1, h2, h3, h4, h5, h6, h7, h8, h9, h10⟩ := h
  refine ⟨?_, ?_, ?_, ?_, ?_, ?_, h7, ?_, ?_, ?_⟩
  · rw [k 40 (by omega) (by omega)]; exact h1
  · rw [k 40 (by omega) (by omega)]; exact h2
  · rw [k 40 (by omega) (by omega)]; exact h3
  · rw [k 40 (by omega) (by omega)]; exact h4
  · rw [k 40 (by omega) (by omega)]; exact h5
  · rw [k 45 (by omega) (by omega), k 46 (by omega) (by omega)]; exact h6
  · rw [k 40 (by omega) (by omega)]; exact h8
  · rw [k (57 + 4 * T) (by omega) (by omega), k (58 + 4 * T) (by omega) (by omega)]; exact h9
  · rw [k (57 + 4 * T) (by omega) (by omega), k (58 + 4 * T) (by omega) (by omega)]; exact h10
theorem bes_m (W : Int32) (d : Nat) : (if bt W d = true then -1 else nI d) = (match (match some d with | none => none | some d => if bt W d = true then none else some d : Option Nat) with | none => (-1 : Int32) | some d => nI d) := by
  cases hb : bt W d <;> simp [hb]
theorem x_bes {X : hMem} {W : Int32} (hW : X 40 0 = W) {c way : Nat} (hc : c < 32) (hw : way < 4) : fX8_beside (nI c) (nI way) X = (match besS W c way with | none => -1 | some d => nI d) := by
  have L79 : ∀ d, d < 32 → fX8_beside_L79 (nI d) X = if bt W d = true then -1 else nI d := fun d hd => by
    unfold fX8_beside_L79
    rw [xe_sq, b01, if_pos (ib_mk hd (by decide)), hW, bit_u _ hd, b01]
  have L79n : ∀ x : Int32, ¬ h_ib x 32 → fX8_beside_L79 x X = -1 := fun x hx => by
    unfold fX8_beside_L79
    rw [xe_sq, b01, if_neg hx]
  have r8 : h_rem (nI c) 8 = nI (c % 8) := n_rem (by omega) (by decide) (by decide)
  unfold fX8_beside fX8_beside_L52 fX8_beside_L78 besS nbr
  rw [r8]
  rcases (by omega : way = 0 ∨ way = 1 ∨ way = 2 ∨ way = 3) with rfl | rfl | rfl | rfl
  · rw [if_pos (show nI 0 = 0 from rfl)]
    simp only [if_true]
    by_cases h : 8 ≤ c
    · rw [if_pos h, show nI c - 8 = nI (c - 8) from pk_sub (b := 8) h, L79 _ (by omega)]; exact bes_m W _
    · rw [if_neg h, L79n _ (fun hh => by have := ((ib_int _ _).mp hh).1; rw [show (nI c - 8).toInt = (c : Int) - 8 from pk_sub_toInt (b := 8) (by omega) (by decide)] at this; omega)]
  · rw [if_neg (show ¬ nI 1 = 0 from by decide), if_pos (show nI 1 = 1 from rfl)]
    simp only [if_neg (show ¬ 1 = 0 by decide), if_true]
    by_cases h : c % 8 < 7
    · rw [if_pos h, if_neg (show ¬ (7 : Int32) ≤ nI (c % 8) from nI_ge (b := 7) h (by decide)), nI_1, L79 _ (by omega)]; exact bes_m W _
    · rw [if_neg h, if_pos (show (7 : Int32) ≤ nI (c % 8) from nI_le (a := 7) (by omega) (by omega)), L79n _ (by decide)]
  · rw [if_neg (show ¬ nI 2 = 0 from by decide), if_neg (show ¬ nI 2 = 1 from by decide), if_pos (show nI 2 = 2 from rfl)]
    simp only [if_neg (show ¬ 2 = 0 by decide), if_neg (show ¬ 2 = 1 by decide), if_true]
    rw [show nI c + 8 = nI (c + 8) from nI_add c 8]
    by_cases h : c + 8 < 32
    · rw [if_pos h, L79 _ h]; exact bes_m W _
    · rw [if_neg h, L79n _ (fun hh => h ((ib_iff (by omega)).mp hh))]
  · rw [if_neg (show ¬ nI 3 = 0 from by decide), if_neg (show ¬ nI 3 = 1 from by decide), if_neg (show ¬ nI 3 = 2 from by decide)]
    simp only [if_neg (show ¬ 3 = 0 by decide), if_neg (show ¬ 3 = 1 by decide), if_neg (show ¬ 3 = 2 by decide)]
    by_cases h : 0 < c % 8
    · rw [if_pos h, if_neg (show ¬ nI (c % 8) ≤ 0 from nI_ge (a := 0) h (by omega)), nI_sub1 (by omega), L79 _ (by omega)]; exact bes_m W _
    · rw [if_neg h, if_pos (show nI (c % 8) ≤ 0 from nI_le (b := 0) (by omega) (by decide)), L79n _ (by decide)]
theorem x_slide {X : hMem} {W P : Int32} (hW : X 40 0 = W) (hP : X 40 1 = P) {c way far : Nat} (hc : c < 32) (hw : way < 4) (hf : far ≤ 12) : fX8_slide (nI c) (nI way) (nI far) X = some (nI (sldS W P way far c)) := by
  unfold fX8_slide
  obtain ⟨r, h1, h2⟩ := lp_h (body := fX8_slide_L6 (nI way) (nI far) X) (fun s => ∃ c' i : Nat, s = (nI c', nI i) ∧ c' < 32 ∧ i ≤ far ∧ sldS W P way (far - i) c' = sldS W P way far c) (fun r => r = nI (sldS W P way far c)) (fun s => far - s.2.toNatClampNeg) (by
    rintro k s ⟨c', i, rfl, hc', hi, hr⟩ hk
    unfold fX8_slide_L6
    simp only []
    rcases Nat.lt_or_ge i far with h | h
    · rw [if_neg (nI_ge h (by omega)), x_bes hW hc' hw, nI_1]
      obtain ⟨m, hm⟩ : ∃ m, far - i = m + 1 := ⟨far - i - 1, by omega⟩
      rw [hm, sldS_s] at hr
      cases e : besS W c' way with
      | none => simp only [e] at hr ⊢; rw [if_neg (by decide)]; exact ⟨_, rfl, by rw [hr]⟩
      | some d =>
        have hd := besS_lt hc' e
        simp only [e] at hr ⊢
        rw [if_pos (nI_pos' (by omega)), hP, bit_u _ hd, b01]
        by_cases hb : bt P d = true
        · rw [if_pos hb] at hr ⊢; exact ⟨_, rfl, by rw [hr]⟩
        · rw [if_neg hb] at hr ⊢
          exact hk _ ⟨d, i + 1, rfl, hd, h, by rw [show far - (i + 1) = m from by omega, hr]⟩ (by simp only [nI_clamp (show i + 1 < 2 ^ 31 by omega), nI_clamp (show i < 2 ^ 31 by omega)]; omega)
    · rw [if_pos (nI_le h (by omega))]
      rw [show far - i = 0 from by omega] at hr
      exact ⟨_, rfl, by rw [← hr]; rfl⟩) h_FU (nI c, 0) ⟨c, 0, rfl, hc, Nat.zero_le _, rfl⟩ (by show far - (0 : Int32).toNatClampNeg < 20000; omega)
  rw [h1, h2]
/-- a second, x's -/
theorem x_next {w : hWd} {T : Nat} {X : hMem} (hw : okW w) (h : MX w T X) {t q l : Nat} (ht : t < 24) (hq : q < 32) (hl : l < 3) : ∃ X', fX8_next (nI t) (nI (32 * l + q)) X = some (nI (32 * (stepS w t (q, l)).2 + (stepS w t (q, l)).1), X') ∧ kT X X' := by
  have h0 := h
  obtain ⟨h1, h2, h3, h4, h5, h6, h7, h8, ⟨mc, ms, h9⟩, h10⟩ := h
  obtain ⟨o1, o2, o3, o4⟩ := hw
  unfold fX8_next
  rw [xe_sec, b01, if_pos (ib_mk ht (by decide)), if_pos (ib_mk ht (by decide))]
  simp only [nI_clamp (show t < 2 ^ 31 by omega), (h6 t ht).1]
  by_cases c4 : w.2.1 t = 4
  · rw [if_pos c4]
    refine ⟨X, ?_, kT.rf X⟩
    rw [show stepS w t (q, l) = (q, l) from by unfold stepS; rw [if_pos c4]]
  · rw [if_neg c4]
    unfold fX8_isWet
    rw [x_sqOf hq hl, h2, bit_u _ hq, b01, b01]
    by_cases cw : bt (w.1 1) q = true
    · rw [if_pos cw]
      refine ⟨X, ?_, kT.rf X⟩
      rw [show stepS w t (q, l) = (q, l) from by unfold stepS; rw [if_neg c4, if_pos cw]]
    · rw [if_neg cw, if_pos (ib_mk ht (by decide)), (h6 t ht).2]
      unfold fX8_tell fX8_tell_L44
      simp only [x_lieOf hq hl, x_sqOf hq hl]
      have frT : kT X (h_up (h_up (h_up (h_up (h_up (h_up X 48 0 (w.2.2.1 t)) 48 1 (nI l)) 48 2 ((h_up (h_up X 48 0 (w.2.2.1 t)) 48 1 (nI l)) 40 4)) 48 3 (nI t)) 48 4 (nI q)) 48 5 ((h_up (h_up (h_up (h_up (h_up X 48 0 (w.2.2.1 t)) 48 1 (nI l)) 48 2 ((h_up (h_up X 48 0 (w.2.2.1 t)) 48 1 (nI l)) 40 4)) 48 3 (nI t)) 48 4 (nI q)) 40 3)) := fun a ha _ => by
        simp (disch := omega) only [m_row]
      have nm6 : ∀ j, j < 6 → (h_up (h_up (h_up (h_up (h_up (h_up X 48 0 (w.2.2.1 t)) 48 1 (nI l)) 48 2 ((h_up (h_up X 48 0 (w.2.2.1 t)) 48 1 (nI l)) 40 4)) 48 3 (nI t)) 48 4 (nI q)) 48 5 ((h_up (h_up (h_up (h_up (h_up X 48 0 (w.2.2.1 t)) 48 1 (nI l)) 48 2 ((h_up (h_up X 48 0 (w.2.2.1 t)) 48 1 (nI l)) 40 4)) 48 3 (nI t)) 48 4 (nI q)) 40 3)) 48 j = nmS (w.2.2.1 t) (nI l) (nI w.2.2.2.2.1) (nI t) (nI q) (nI w.2.2.2.1) j := by
        intro j hj
        simp (disch := omega) only [m_row, m_own, u_e, h4, h5]
        rcases (by omega : j = 0 ∨ j = 1 ∨ j = 2 ∨ j = 3 ∨ j = 4 ∨ j = 5) with rfl | rfl | rfl | rfl | rfl | rfl <;> rfl
      generalize (h_up (h_up (h_up (h_up (h_up (h_up X 48 0 (w.2.2.1 t)) 48 1 (nI l)) 48 2 ((h_up (h_up X 48 0 (w.2.2.1 t)) 48 1 (nI l)) 40 4)) 48 3 (nI t)) 48 4 (nI q)) 48 5 ((h_up (h_up (h_up (h_up (h_up X 48 0 (w.2.2.1 t)) 48 1 (nI l)) 48 2 ((h_up (h_up X 48 0 (w.2.2.1 t)) 48 1 (nI l)) 40 4)) 48 3 (nI t)) 48 4 (nI q)) 40 3)) = Y at frT nm6
      obtain ⟨y1, y2, y3, y4, y5, y6, y7, y8, y9, y10⟩ := h0.kT frT
      have hB : h_isB hYx (56 + 4 * T) 3 0 = true := h_forall (N := 6) (p := fun T => h_isB hYx (56 + 4 * T) 3 0) (by decide +kernel) h7
      rw [Option.bind_some, y8, nI_clamp (by omega), if_pos hB]
      obtain ⟨mc', ms', y9⟩ := y9
      obtain ⟨Y1, s1, s2⟩ := x_says (p := 0) h7 (by omega) y9 rfl rfl (rfl : Y 48 = Y 48)
      have e0 : evX (Y (57 + 4 * T)) (Y (58 + 4 * T)) 0 (Y 48) = w.2.2.2.2.2 0 (nmS (w.2.2.1 t) (nI l) (nI w.2.2.2.2.1) (nI t) (nI q) (nI w.2.2.2.1)) := by
        rw [y10]; exact evX_c (by omega) y9 nm6
      rw [show ((0 : Int32)) = nI 0 from rfl, s1, Option.bind_some, e0]
      simp only [show nI 0 = (0 : Int32) from rfl]
      have kY1 : kT Y Y1 := fun a _ h => s2 a (by omega)
      have fr1 := frT.tr kY1
      obtain ⟨z1, z2, z3, z4, z5, z6, z7, z8, z9, z10⟩ := h0.kT fr1
      obtain ⟨v, v1, v2, v3⟩ := ib_ex (o4 (nmS (w.2.2.1 t) (nI l) (nI w.2.2.2.2.1) (nI t) (nI q) (nI w.2.2.2.1))).1
      obtain ⟨wy, wy1, wy2, wy3⟩ := ib_ex (o1 t ht)
      have wy4 : wy < 4 := by
        rcases (by omega : wy < 4 ∨ wy = 4) with g | g
        · exact g
        · exact absurd (wy3.trans (by rw [g]; rfl)) c4
      have L128 : ∀ wd, wd < 4 → ∃ X', fX8_next_L128 (nI q) (nI l) (nI (farN w.2.2.2.1 w.2.2.2.2.1 v l)) (nI wd) (nI q) Y1 = some (nI (32 * (if w.2.2.2.1 = 2 ∨ w.2.2.2.1 = 4 ∨ sldS (w.1 0) (w.1 1) wd (farN w.2.2.2.1 w.2.2.2.2.1 v l) q = q then l else (l + (w.2.2.2.2.2 1 (nmS (w.2.2.1 t) (nI l) (nI w.2.2.2.2.1) (nI t) (nI q) (nI w.2.2.2.1))).toNatClampNeg) % 3) + sldS (w.1 0) (w.1 1) wd (farN w.2.2.2.1 w.2.2.2.2.1 v l) q), X') ∧ kT X X' := by
        intro wd hwd
        unfold fX8_next_L128
        have hfar : farN w.2.2.2.1 w.2.2.2.2.1 v l ≤ 12 := Nat.min_le_left _ _
        rw [x_slide z1 z2 hq hwd hfar, Option.bind_some]
        have hs := sldS_lt (W := w.1 0) (P := w.1 1) (way := wd) (farN w.2.2.2.1 w.2.2.2.2.1 v l) q hq
        generalize sldS (w.1 0) (w.1 1) wd (farN w.2.2.2.1 w.2.2.2.2.1 v l) q = qq at hs ⊢
        by_cases e : qq = q
        · rw [if_pos (by rw [e]), if_pos (Or.inr (Or.inr e)), x_stOf]
          exact ⟨Y1, rfl, fr1⟩
        · rw [if_neg (fun h => e ((nI_eq (by omega) (by omega)).mp h)), z4, x_turns o2, Option.bind_some]
          by_cases k24 : w.2.2.2.1 = 2 ∨ w.2.2.2.1 = 4
          · rw [if_pos k24, if_pos rfl, if_pos (k24.elim Or.inl (fun h => Or.inr (Or.inl h))), x_stOf]
            exact ⟨Y1, rfl, fr1⟩
          · rw [if_neg k24, if_neg (show ¬ (1 : Int32) = 0 by decide), z8, nI_clamp (by omega), if_pos hB, if_neg (fun h => h.elim (fun a => k24 (Or.inl a)) (fun h => h.elim (fun a => k24 (Or.inr a)) e))]
            obtain ⟨mc2, ms2, z9⟩ := z9
            obtain ⟨Y2, r1, r2⟩ := x_says (p := 1) h7 (by omega) z9 rfl rfl (rfl : Y1 48 = Y1 48)
            have e1 : evX (Y1 (57 + 4 * T)) (Y1 (58 + 4 * T)) 1 (Y1 48) = w.2.2.2.2.2 1 (nmS (w.2.2.1 t) (nI l) (nI w.2.2.2.2.1) (nI t) (nI q) (nI w.2.2.2.1)) := by
              rw [z10]; exact evX_c (by omega) z9 (fun j hj => by rw [s2 48 (by omega)]; exact nm6 j hj)
            rw [show ((1 : Int32)) = nI 1 from rfl, r1, Option.bind_some, e1]
            obtain ⟨u, u1, u2, u3⟩ := ib_ex (o4 (nmS (w.2.2.1 t) (nI l) (nI w.2.2.2.2.1) (nI t) (nI q) (nI w.2.2.2.1))).2
            rw [u3, nI_add, show (3 : Int32) = nI 3 from rfl, n_rem (by omega) (by decide) (by decide), x_stOf, nI_clamp u2]
            exact ⟨Y2, rfl, fr1.tr (fun a _ h => r2 a (by omega))⟩
      have eS : ∀ wd, wd = (if bt (w.1 2) q = true then eddN w.2.2.2.1 w.2.2.2.2.1 wy else wy) → stepS w t (q, l) = (sldS (w.1 0) (w.1 1) wd (farN w.2.2.2.1 w.2.2.2.2.1 v l) q, if w.2.2.2.1 = 2 ∨ w.2.2.2.1 = 4 ∨ sldS (w.1 0) (w.1 1) wd (farN w.2.2.2.1 w.2.2.2.2.1 v l) q = q then l else (l + (w.2.2.2.2.2 1 (nmS (w.2.2.1 t) (nI l) (nI w.2.2.2.2.1) (nI t) (nI q) (nI w.2.2.2.1))).toNatClampNeg) % 3) := by
        intro wd hwd
        unfold stepS
        rw [if_neg c4, if_neg cw]
        simp only [v3, nI_clamp v2, wy3, nI_clamp wy2]
        rw [hwd]
      rw [z3, bit_u _ hq, b01, y4, y5, v3, x_far o2 o3 v1 hl]
      unfold fX8_next_L93
      rw [if_pos (ib_mk ht (by decide)), if_neg (show ¬ (1 : Int32) = 0 by decide), if_pos rfl, if_pos (ib_mk ht (by decide)), nI_clamp (by omega), (z6 t ht).1, wy3, z4, z5, x_edd o2 o3 wy4]
      by_cases ce : bt (w.1 2) q = true
      · rw [if_pos ce, eS (eddN w.2.2.2.1 w.2.2.2.2.1 wy) (by rw [if_pos ce])]
        refine L128 _ ?_
        unfold eddN
        split
        · omega
        · split <;> omega
      · rw [if_neg ce, eS wy (by rw [if_neg ce])]
        exact L128 _ wy4
end
section
/-! A SECOND, the other one's -/
def MM (w : hWd) (h : Nat) (c e : Nat → Int32) (M : hMem) : Prop := h < 4 ∧ (∀ k, k < 3 → M 1 k = w.1 k) ∧ (∀ t, t < 24 → M 2 t = w.2.1 t ∧ M 3 t = w.2.2.1 t) ∧ M 4 h = nI w.2.2.2.1 ∧ M 5 h = nI w.2.2.2.2.1 ∧ (∃ r, r < 6 ∧ M 0 15 = nI r ∧ gText c e (fun i => M 10 (200 * r + i)) (fun p => M 11 (4 * r + p))) ∧ w.2.2.2.2.2 = evX c e
def kS (M M' : hMem) : Prop := (∀ a, a ≠ 0 → a ≠ 19 → a ≠ 20 → M' a = M a) ∧ ∀ j, j ≠ 36 → j ≠ 37 → M' 0 j = M 0 j
theorem kS.rf (M : hMem) : kS M M := ⟨fun _ _ _ _ => rfl, fun _ _ _ => rfl⟩
theorem kS.tr {X Y Z : hMem} (h : kS X Y) (g : kS Y Z) : kS X Z := ⟨fun a h1 h2 h3 => (g.1 a h1 h2 h3).trans (h.1 a h1 h2 h3), fun j h1 h2 => (g.2 j h1 h2).trans (h.2 j h1 h2)⟩
theorem MM.kS {w : hWd} {h : Nat} {c e : Nat → Int32} {M M' : hMem} (m : MM w h c e M) (k : kS M M') : MM w h c e M' := by
  obtain ⟨h1, h2, h3, h4, h5, ⟨r, h6, h7, h8⟩, h9⟩ := m
  refine ⟨h1, ?_, ?_, ?_, ?_, ⟨r, h6, ?_, ?_⟩, h9⟩
  · rw [k.1 1 (by omega) (by omega) (by omega)]; exact h2
  · rw [k.1 2 (by omega) (by omega) (by omega), k.1 3 (by omega) (by omega) (by omega)]; exact h3
  · rw [k.1 4 (by omega) (by omega) (by omega)]; exact h4
  · rw [k.1 5 (by omega) (by omega) (by omega)]; exact h5
  · rw [k.2 15 (by omega) (by omega)]; exact h7
  · rw [k.1 10 (by omega) (by omega) (by omega), k.1 11 (by omega) (by omega) (by omega)]; exact h8
theorem m_next0 {c way : Nat} (hc : c < 32) (hw : way < 4) (M : hMem) : fX10_next0 (nI c) (nI way) M = (match nbr c way with | none => -1 | some d => nI d) := by
  have h := dc2 (N := 32) (K := 4) (p := fun c way => decide (fX10_next0 (nI c) (nI way) hM0 = (match nbr c way with | none => -1 | some d => nI d))) (by decide +kernel) hc hw
  exact of_decide_eq_true h
theorem m_bes {M : hMem} {W : Int32} (hW : M 1 0 = W) {c way : Nat} (hc : c < 32) (hw : way < 4) : fX10_beside (nI c) (nI way) M = some (match besS W c way with | none => -1 | some d => nI d) := by
  unfold fX10_beside
  rw [m_next0 hc hw]
  unfold besS
  cases e : nbr c way with
  | none => rfl
  | some d =>
    have hd := nbr_lt hc e
    simp only []
    rw [if_neg (n_m1 (by omega)), me_has0 hd, Option.bind_some, b01, hW]
    by_cases hb : bt W d = true
    · rw [if_pos hb, if_pos hb]
    · rw [if_neg hb, if_neg hb]
theorem nI_neq {k : Nat} (n : Nat) (hk : k < 2 ^ 31) (hn : n < 2 ^ 31) (h : k ≠ n) : ¬ nI k = nI n := fun e => h ((nI_eq hk hn).mp e)
def hM1 (k mo l : Nat) : hMem := fun a j => if a = 4 then nI k else if a = 5 then nI mo else nI l
theorem m_goesBy {M : hMem} {h k mo v l : Nat} (hh : h < 4) (h4 : M 4 h = nI k) (h5 : M 5 h = nI mo) (h37 : M 0 37 = nI l) (hk : k < 6) (hm : mo < 10) (hv : v < 10) (hl : l < 3) : fX10_goesBy (nI h) (nI v) M = some (nI (farN k mo v l)) := by
  have e : fX10_goesBy (nI h) (nI v) M = fX10_goesBy (nI 0) (nI v) (hM1 k mo l) := by
    unfold fX10_goesBy fX10_goesBy_L29 fX10_goesBy_L41 fX10_goesBy_L56 fX10_goesBy_L61 fX10_within
    rw [if_pos (ib_mk hh (by decide)), if_pos (ib_mk hh (by decide)), if_pos (ib_mk (j := 0) (n := 4) (by decide) (by decide)), if_pos (ib_mk (j := 0) (n := 4) (by decide) (by decide)), nI_clamp (by omega), h4, h5, h37]
    rfl
  rw [e]
  have h := dc4 (A := 6) (B := 10) (C := 10) (D := 3) (p := fun k mo v l => decide (fX10_goesBy (nI 0) (nI v) (hM1 k mo l) = some (nI (farN k mo v l)))) (by decide +kernel) hk hm hv hl
  exact of_decide_eq_true h
theorem m_wayIn {M : hMem} {h k mo q wy : Nat} (hh : h < 4) (h4 : M 4 h = nI k) (h5 : M 5 h = nI mo) (h36 : M 0 36 = nI q) (hk : k < 6) (hm : mo < 10) (hq : q < 32) (hw : wy < 4) : fX10_wayIn (nI h) (nI wy) M = some (nI (if bt (M 1 2) q = true then eddN k mo wy else wy)) := by
  unfold fX10_wayIn
  rw [h36, me_has2 hq, Option.bind_some, b01]
  by_cases hb : bt (M 1 2) q = true
  · rw [if_pos hb, if_pos hb, if_pos (ib_mk hh (by decide))]
    simp only [nI_clamp (show h < 2 ^ 31 by omega), h4, h5]
    unfold eddN
    by_cases k5 : k = 5
    · subst k5; rw [if_pos (show nI 5 = 5 from rfl), if_neg (show ¬ 5 = 3 by decide), if_pos rfl]
    · rw [if_neg (show ¬ nI k = 5 from nI_neq 5 (by omega) (by decide) k5), if_pos (ib_mk hh (by decide))]
      by_cases k3 : k = 3
      · subst k3; rw [if_pos (show nI 3 = 3 from rfl), if_pos (ib_mk hh (by decide)), if_pos rfl, nI_1, nI_add, show (4 : Int32) = nI 4 from rfl, n_rem (by omega) (by decide) (by decide)]
      · rw [if_neg (show ¬ nI k = 3 from nI_neq 3 (by omega) (by decide) k3), if_neg k3, if_neg k5, nI_1, show (4 : Int32) = nI 4 from rfl, show nI (wy + 1) + 0 = nI (wy + 1) from nI_add (wy + 1) 0, n_rem (by omega) (by decide) (by decide)]
  · rw [if_neg hb, if_neg hb]
/-- whether a second is one in which the hat is held -/
def hldM (M : hMem) (t : Nat) : Bool := !decide (nI t < M 0 38) && !decide (M 0 38 + M 0 39 ≤ nI t)
theorem hldM_c {M M' : hMem} (k : kS M M') : hldM M' = hldM M := by
  funext t
  unfold hldM
  rw [k.2 38 (by omega) (by omega), k.2 39 (by omega) (by omega)]
theorem hldM_0 {M : hMem} (h : M 0 39 = 0) (t : Nat) : hldM M t = false := by
  unfold hldM
  rw [h, show M 0 38 + 0 = M 0 38 from Int32.add_zero _]
  by_cases c : nI t < M 0 38
  · rw [decide_eq_true c]; rfl
  · rw [decide_eq_true (fa_of_nlt c)]; simp
theorem hldM_f {M : hMem} {f m t : Nat} (h1 : M 0 38 = nI f) (h2 : M 0 39 = nI m) (hf : f < 2 ^ 30) (hm : m < 2 ^ 30) (ht : t < 2 ^ 30) : hldM M t = decide (f ≤ t ∧ t < f + m) := by
  unfold hldM
  rw [h1, h2, nI_add]
  by_cases c : t < f
  · rw [decide_eq_true (nI_lt c (by omega)), decide_eq_false (p := f ≤ t ∧ t < f + m) (by omega)]; rfl
  · rw [decide_eq_false (nI_nlt (by omega) (by omega))]
    by_cases d : t < f + m
    · rw [decide_eq_false (nI_ge d (by omega)), decide_eq_true (p := f ≤ t ∧ t < f + m) (by omega)]; rfl
    · rw [decide_eq_true (nI_le (show f + m ≤ t by omega) (by omega)), decide_eq_false (p := f ≤ t ∧ t < f + m) (by omega)]; rfl
set_option maxHeartbeats 1000000 in
theorem m_goes {w : hWd} {hh : Nat} {c e : Nat → Int32} {M : hMem} (m : MM w hh c e M) {q l way far : Nat} (hq : q < 32) (hw : way < 4) (hfar : far ≤ 12) (h36 : M 0 36 = nI q) (h37 : M 0 37 = nI l) (hp : bt (w.1 1) q = false) {tn : Int32} : ∃ Y, h_lp (fX10_seconds_L149 (nI hh) (nI q) (nI far) tn (nI way)) h_FU (0, M) = fX10_seconds_L205 (nI hh) (nI q) tn Y ∧ kS M Y ∧ Y 0 36 = nI (sldS (w.1 0) (w.1 1) way far q) ∧ Y 0 37 = nI l := by
  have hop : ∀ Z : hMem, fX10_seconds_L205 (nI hh) (nI q) tn Z = fX10_seconds_L205 (nI hh) (nI q) tn Z := fun _ => rfl
  have key : ∀ (n i : Nat) (Y : hMem) (p : Nat), far - i < n → i ≤ far → p < 32 → kS M Y → Y 0 36 = nI p → Y 0 37 = nI l → (if bt (w.1 1) p = true then p else sldS (w.1 0) (w.1 1) way (far - i) p) = sldS (w.1 0) (w.1 1) way far q → ∃ Y', h_lp (fX10_seconds_L149 (nI hh) (nI q) (nI far) tn (nI way)) n (nI i, Y) = fX10_seconds_L205 (nI hh) (nI q) tn Y' ∧ kS M Y' ∧ Y' 0 36 = nI (sldS (w.1 0) (w.1 1) way far q) ∧ Y' 0 37 = nI l := by
    intro n
    induction n with
    | zero => intro i Y p h; exact absurd h (Nat.not_lt_zero _)
    | succ n ih =>
      intro i Y p hn hi hp' hk y36 y37 hr
      rw [lp_s]
      generalize hg : h_lp (fX10_seconds_L149 (nI hh) (nI q) (nI far) tn (nI way)) n = kk at *
      unfold fX10_seconds_L149
      simp only []
      rcases Nat.lt_or_ge i far with hlt | hge
      · rw [if_neg (nI_ge hlt (by omega)), y36, me_has1 hp', Option.bind_some, b01]
        have hW := (m.kS hk).2.1
        rw [hW 1 (by omega)]
        by_cases hb : bt (w.1 1) p = true
        · rw [if_pos hb] at hr ⊢
          exact ⟨Y, rfl, hk, by rw [y36, hr], y37⟩
        · rw [if_neg hb] at hr ⊢
          obtain ⟨z, hz⟩ : ∃ z, far - i = z + 1 := ⟨far - i - 1, by omega⟩
          rw [hz, sldS_s] at hr
          rw [m_bes (hW 0 (by omega)) hp' hw, Option.bind_some, nI_1]
          have hz2 : far - (i + 1) = z := by omega
          cases eb : besS (w.1 0) p way with
          | none =>
            simp only [eb] at hr ⊢
            rw [if_pos trivial]
            refine ih (i + 1) _ p (by omega) hlt hp' (hk.tr ⟨fun a h1 _ _ => m_row h1, fun j h1 h2 => by rw [m_own, u_n h1]⟩) ?_ ?_ ?_
            · rw [m_own, u_s]
            · rw [m_own, u_n (by omega)]; exact y37
            · rw [if_neg hb, sldS_none eb]; exact hr
          | some d =>
            have hd := besS_lt hp' eb
            simp only [eb] at hr ⊢
            rw [if_neg (n_m1 (by omega))]
            refine ih (i + 1) _ d (by omega) hlt hd (hk.tr ⟨fun a h1 _ _ => m_row h1, fun j h1 h2 => by rw [m_own, u_n h1]⟩) ?_ ?_ ?_
            · rw [m_own, u_s]
            · rw [m_own, u_n (by omega)]; exact y37
            · rw [hz2]; exact hr
      · rw [if_pos (nI_le hge (by omega))]
        refine ⟨Y, rfl, hk, ?_, y37⟩
        rw [show far - i = 0 from by omega] at hr
        rw [y36, ← hr]
        congr 1
        split <;> rfl
  exact key h_FU 0 M q (by show far - 0 < 20000; omega) (Nat.zero_le _) hq (kS.rf M) h36 h37 (by rw [if_neg (by rw [hp]; decide)]; rfl)
set_option maxHeartbeats 1000000 in
theorem m_seconds {w : hWd} {h : Nat} {c e : Nat → Int32} {M : hMem} (hw : okW w) (m : MM w h c e M) {t q l : Nat} (ht : t < 24) (hq : q < 32) (hl : l < 3) (h36 : M 0 36 = nI q) (h37 : M 0 37 = nI l) : ∃ M', fX10_seconds (nI h) (nI t) M = some M' ∧ kS M M' ∧ M' 0 36 = nI (if hldM M t = true then (q, l) else stepS w t (q, l)).1 ∧ M' 0 37 = nI (if hldM M t = true then (q, l) else stepS w t (q, l)).2 := by
  have m0 := m
  obtain ⟨h1, h2, h3, h4, h5, ⟨r, h6, h7, h8⟩, h9⟩ := m
  obtain ⟨o1, o2, o3, o4⟩ := hw
  have L26 : ∀ tb : Int32, ∃ M', fX10_seconds_L26 (nI h) (nI t) tb M = some M' ∧ kS M M' ∧ M' 0 36 = nI (if ¬ tb = 0 then (q, l) else stepS w t (q, l)).1 ∧ M' 0 37 = nI (if ¬ tb = 0 then (q, l) else stepS w t (q, l)).2 := by
    intro tb
    unfold fX10_seconds_L26
    rw [h36, me_has1 hq, Option.bind_some, b01, h2 1 (by omega)]
    have stay : stepS w t (q, l) = (q, l) → ∃ M', some M = some M' ∧ kS M M' ∧ M' 0 36 = nI (if ¬ tb = 0 then (q, l) else stepS w t (q, l)).1 ∧ M' 0 37 = nI (if ¬ tb = 0 then (q, l) else stepS w t (q, l)).2 := fun es => by
      refine ⟨M, rfl, kS.rf M, ?_, ?_⟩ <;> rw [es, ite_self]
      · exact h36
      · exact h37
    by_cases cw : bt (w.1 1) q = true
    · rw [if_pos cw]
      exact stay (by unfold stepS; simp only [if_pos cw, ite_self])
    · rw [if_neg cw, if_pos (ib_mk ht (by decide))]
      simp only [nI_clamp (show t < 2 ^ 31 by omega), (h3 t ht).1, (h3 t ht).2]
      by_cases c4 : w.2.1 t = 4
      · rw [if_pos c4]
        exact stay (by unfold stepS; rw [if_pos c4])
      · rw [if_neg c4]
        by_cases hb : tb = 0
        · rw [if_pos hb, if_pos (ib_mk ht (by decide)), if_pos (ib_mk h1 (by decide)), if_pos (ib_mk h1 (by decide))]
          simp only [nI_clamp (show h < 2 ^ 31 by omega), h4, h5, h37]
          obtain ⟨Y, a1, a2⟩ := m_asksOf (p := 0) (s := w.2.2.1 t) (l := nI l) (mo := nI w.2.2.2.2.1) (t := nI t) (q := nI q) (k := nI w.2.2.2.1) h6 (by omega) h7 h8 (fun _ _ => trivial)
          have e0 : evX c e 0 (fun j => if j < 6 then nmS (w.2.2.1 t) (nI l) (nI w.2.2.2.2.1) (nI t) (nI q) (nI w.2.2.2.1) j else M 20 j) = w.2.2.2.2.2 0 (nmS (w.2.2.1 t) (nI l) (nI w.2.2.2.2.1) (nI t) (nI q) (nI w.2.2.2.1)) := by
            rw [h9]; exact evX_c (by omega) h8 (fun j hj => if_pos hj)
          rw [show fX10_asksOf 0 (w.2.2.1 t) (nI l) (nI w.2.2.2.2.1) (nI t) (nI q) (nI w.2.2.2.1) M = _ from a1, Option.bind_some, e0]
          have kY : kS M Y := ⟨fun a _ h19 h20 => a2 a h19 h20, fun j _ _ => by rw [a2 0 (by omega) (by omega)]⟩
          obtain ⟨y1, y2, y3, y4, y5, ⟨r', y6, y7, y8⟩, y9⟩ := m0.kS kY
          obtain ⟨v, v1, v2, v3⟩ := ib_ex (o4 (nmS (w.2.2.1 t) (nI l) (nI w.2.2.2.2.1) (nI t) (nI q) (nI w.2.2.2.1))).1
          have y37 : Y 0 37 = nI l := by rw [a2 0 (by omega) (by omega)]; exact h37
          have y36 : Y 0 36 = nI q := by rw [a2 0 (by omega) (by omega)]; exact h36
          rw [v3, m_goesBy h1 y4 y5 y37 o2 o3 v1 hl, Option.bind_some, if_pos (ib_mk ht (by decide)), if_pos (ib_mk h1 (by decide)), if_pos (ib_mk h1 (by decide))]
          dsimp only
          rw [(y3 t ht).2, y37, y5, y36, y4]
          obtain ⟨Y2, b1, b2⟩ := m_asksOf (p := 1) (s := w.2.2.1 t) (l := nI l) (mo := nI w.2.2.2.2.1) (t := nI t) (q := nI q) (k := nI w.2.2.2.1) y6 (by omega) y7 y8 (fun _ _ => trivial)
          have e1 : evX c e 1 (fun j => if j < 6 then nmS (w.2.2.1 t) (nI l) (nI w.2.2.2.2.1) (nI t) (nI q) (nI w.2.2.2.1) j else Y 20 j) = w.2.2.2.2.2 1 (nmS (w.2.2.1 t) (nI l) (nI w.2.2.2.2.1) (nI t) (nI q) (nI w.2.2.2.1)) := by
            rw [h9]; exact evX_c (by omega) y8 (fun j hj => if_pos hj)
          rw [show fX10_asksOf 1 (w.2.2.1 t) (nI l) (nI w.2.2.2.2.1) (nI t) (nI q) (nI w.2.2.2.1) Y = _ from b1, Option.bind_some, e1, if_pos (ib_mk ht (by decide))]
          have kY2 : kS M Y2 := kY.tr ⟨fun a _ h19 h20 => b2 a h19 h20, fun j _ _ => by rw [b2 0 (by omega) (by omega)]⟩
          obtain ⟨z1, z2, z3, z4, z5, z6, z9⟩ := m0.kS kY2
          obtain ⟨wy, wy1, wy2, wy3⟩ := ib_ex (o1 t ht)
          have wy4 : wy < 4 := by
            rcases (by omega : wy < 4 ∨ wy = 4) with g | g
            · exact g
            · exact absurd (wy3.trans (by rw [g]; rfl)) c4
          have z37 : Y2 0 37 = nI l := by rw [b2 0 (by omega) (by omega)]; exact y37
          have z36 : Y2 0 36 = nI q := by rw [b2 0 (by omega) (by omega)]; exact y36
          dsimp only
          rw [(z3 t ht).1, wy3, m_wayIn h1 z4 z5 z36 o2 o3 hq wy4, Option.bind_some, z2 2 (by omega)]
          have hwd : (if bt (w.1 2) q = true then eddN w.2.2.2.1 w.2.2.2.2.1 wy else wy) < 4 := by
            split
            · unfold eddN
              split
              · omega
              · split <;> omega
            · exact wy4
          have hfar : farN w.2.2.2.1 w.2.2.2.2.1 v l ≤ 12 := Nat.min_le_left _ _
          obtain ⟨Y3, g1, g2, g3, g4⟩ := m_goes (m0.kS kY2) (tn := w.2.2.2.2.2 1 (nmS (w.2.2.1 t) (nI l) (nI w.2.2.2.2.1) (nI t) (nI q) (nI w.2.2.2.1))) hq hwd hfar z36 z37 (by cases hbb : bt (w.1 1) q with | true => exact absurd hbb cw | false => rfl)
          rw [g1]
          have k3 := kY2.tr g2
          obtain ⟨-, -, -, x4, x5, -, -⟩ := m0.kS k3
          have eS : stepS w t (q, l) = (sldS (w.1 0) (w.1 1) (if bt (w.1 2) q = true then eddN w.2.2.2.1 w.2.2.2.2.1 wy else wy) (farN w.2.2.2.1 w.2.2.2.2.1 v l) q, if w.2.2.2.1 = 2 ∨ w.2.2.2.1 = 4 ∨ sldS (w.1 0) (w.1 1) (if bt (w.1 2) q = true then eddN w.2.2.2.1 w.2.2.2.2.1 wy else wy) (farN w.2.2.2.1 w.2.2.2.2.1 v l) q = q then l else (l + (w.2.2.2.2.2 1 (nmS (w.2.2.1 t) (nI l) (nI w.2.2.2.2.1) (nI t) (nI q) (nI w.2.2.2.1))).toNatClampNeg) % 3) := by
            unfold stepS
            rw [if_neg c4, if_neg cw]
            simp only [v3, nI_clamp v2, wy3, nI_clamp wy2]
          rw [if_neg (fun hn => hn hb), eS]
          have hs := sldS_lt (W := w.1 0) (P := w.1 1) (way := (if bt (w.1 2) q = true then eddN w.2.2.2.1 w.2.2.2.2.1 wy else wy)) (farN w.2.2.2.1 w.2.2.2.2.1 v l) q hq
          generalize sldS (w.1 0) (w.1 1) (if bt (w.1 2) q = true then eddN w.2.2.2.1 w.2.2.2.2.1 wy else wy) (farN w.2.2.2.1 w.2.2.2.2.1 v l) q = qq at g3 hs ⊢
          obtain ⟨u, u1, u2, u3⟩ := ib_ex (o4 (nmS (w.2.2.1 t) (nI l) (nI w.2.2.2.2.1) (nI t) (nI q) (nI w.2.2.2.1))).2
          rw [u3, nI_clamp u2]
          have same : ∀ tt : Int32, ¬ tt = 0 → fX10_seconds_L239 (nI u) tt Y3 = some (h_up Y3 0 37 (nI l)) := fun tt htt => by
            unfold fX10_seconds_L239; rw [if_neg htt, g4]
          have fin : ∀ l2 : Nat, kS M (h_up Y3 0 37 (nI l2)) ∧ (h_up Y3 0 37 (nI l2)) 0 36 = nI qq ∧ (h_up Y3 0 37 (nI l2)) 0 37 = nI l2 := fun l2 => by
            refine ⟨k3.tr ⟨fun a h1 _ _ => m_row h1, fun j h1 h2 => by rw [m_own, u_n h2]⟩, ?_, ?_⟩
            · rw [m_own, u_n (by omega)]; exact g3
            · rw [m_own, u_s]
          unfold fX10_seconds_L205 fX10_seconds_L234
          rw [if_pos (ib_mk h1 (by decide))]
          simp only [nI_clamp (show h < 2 ^ 31 by omega), x4, g3]
          by_cases k2 : w.2.2.2.1 = 2
          · rw [if_pos (show nI w.2.2.2.1 = 2 from by rw [k2]; rfl), same _ (by decide), if_pos (Or.inl k2)]
            exact ⟨_, rfl, fin l⟩
          · rw [if_neg (show ¬ nI w.2.2.2.1 = 2 from nI_neq 2 (by omega) (by decide) k2), if_pos (ib_mk h1 (by decide))]
            by_cases k4 : w.2.2.2.1 = 4
            · rw [if_pos (show nI w.2.2.2.1 = 4 from by rw [k4]; rfl), same _ (by decide), if_pos (Or.inr (Or.inl k4))]
              exact ⟨_, rfl, fin l⟩
            · rw [if_neg (show ¬ nI w.2.2.2.1 = 4 from nI_neq 4 (by omega) (by decide) k4)]
              by_cases kq : qq = q
              · rw [if_pos (by rw [kq]), same _ (by decide), if_pos (Or.inr (Or.inr kq))]
                exact ⟨_, rfl, fin l⟩
              · rw [if_neg (nI_neq q (by omega) (by omega) kq), if_neg (fun hh => hh.elim k2 (fun hh => hh.elim k4 kq))]
                unfold fX10_seconds_L239
                rw [if_pos rfl, g4, nI_add, show (3 : Int32) = nI 3 from rfl, n_rem (by omega) (by decide) (by decide)]
                exact ⟨_, rfl, fin _⟩
        · rw [if_neg hb, if_pos hb]
          exact ⟨M, rfl, kS.rf M, h36, h37⟩
  unfold fX10_seconds fX10_seconds_L25
  by_cases d1 : nI t < M 0 38
  · rw [if_pos d1]
    obtain ⟨M', g1, g2, g3, g4⟩ := L26 0
    have hf : hldM M t = false := by unfold hldM; rw [decide_eq_true d1]; rfl
    rw [if_neg (by simp)] at g3 g4
    exact ⟨M', g1, g2, by rw [hf, if_neg (by decide)]; exact g3, by rw [hf, if_neg (by decide)]; exact g4⟩
  · rw [if_neg d1]
    by_cases d2 : M 0 38 + M 0 39 ≤ nI t
    · rw [if_pos d2]
      obtain ⟨M', g1, g2, g3, g4⟩ := L26 0
      have hf : hldM M t = false := by unfold hldM; rw [decide_eq_true d2]; simp
      rw [if_neg (by simp)] at g3 g4
      exact ⟨M', g1, g2, by rw [hf, if_neg (by decide)]; exact g3, by rw [hf, if_neg (by decide)]; exact g4⟩
    · rw [if_neg d2]
      obtain ⟨M', g1, g2, g3, g4⟩ := L26 1
      have hf : hldM M t = true := by unfold hldM; rw [decide_eq_false d1, decide_eq_false d2]; rfl
      rw [if_pos (by decide)] at g3 g4
      exact ⟨M', g1, g2, by rw [hf, if_pos rfl]; exact g3, by rw [hf, if_pos rfl]; exact g4⟩
end
section
/-! SECOND BY SECOND -/
abbrev stN (s : Nat × Nat) : Nat := 32 * s.2 + s.1
def noH : Nat → Bool := fun _ => false
def runS (hl : Nat → Bool) (w : hWd) (a : Nat) : Nat → Nat × Nat → Nat × Nat
  | 0, s => s
  | n + 1, s => if hl (a + n) = true then runS hl w a n s else stepS w (a + n) (runS hl w a n s)
theorem runS_s (hl : Nat → Bool) (w : hWd) (a n : Nat) (s : Nat × Nat) : runS hl w a (n + 1) s = if hl (a + n) = true then runS hl w a n s else stepS w (a + n) (runS hl w a n s) := rfl
theorem runS_lt {hl : Nat → Bool} {w : hWd} {a : Nat} {s : Nat × Nat} (h1 : s.1 < 32) (h2 : s.2 < 3) : ∀ n, (runS hl w a n s).1 < 32 ∧ (runS hl w a n s).2 < 3
  | 0 => ⟨h1, h2⟩
  | n + 1 => by
    rw [runS_s]
    have ih := runS_lt (hl := hl) (w := w) (a := a) h1 h2 n
    split
    · exact ih
    · exact stepS_lt ih.1 ih.2
theorem runS_c {hl hl' : Nat → Bool} {w : hWd} {a : Nat} {s : Nat × Nat} : ∀ {n : Nat}, (∀ j, j < n → hl (a + j) = hl' (a + j)) → runS hl w a n s = runS hl' w a n s
  | 0, _ => rfl
  | n + 1, h => by rw [runS_s, runS_s, runS_c (n := n) (fun j hj => h j (by omega)), h n (by omega)]
/-- one run behind the other -/
theorem runS_add (hl : Nat → Bool) (w : hWd) (a : Nat) (s : Nat × Nat) (m : Nat) : ∀ n, runS hl w a (m + n) s = runS hl w (a + m) n (runS hl w a m s)
  | 0 => rfl
  | n + 1 => by rw [← Nat.add_assoc, runS_s, runS_add hl w a s m n, runS_s, Nat.add_assoc]
/-- rows 47 .. 55 and texts' pending numbers change, no more -/
def kP (X X' : hMem) : Prop := ∀ a, a < 47 ∨ 55 < a → ¬ (59 ≤ a ∧ a < 80 ∧ a % 4 = 3) → X' a = X a
theorem kP.rf (X : hMem) : kP X X := fun _ _ _ => rfl
theorem kP.tr {X Y Z : hMem} (h : kP X Y) (g : kP Y Z) : kP X Z := fun a h1 h2 => (g a h1 h2).trans (h a h1 h2)
theorem kT.P {X Y : hMem} (h : kT X Y) : kP X Y := fun a h1 h2 => h a (by omega) h2
theorem MX.kP {w : hWd} {T : Nat} {X X' : hMem} (h : MX w T X) (k : kP X X') : MX w T X' := by
  obtain ⟨h1, h2, h3, h4, h5, h6, h7, h8, h9, h10⟩ := h
  refine ⟨?_, ?_, ?_, ?_, ?_, ?_, h7, ?_, ?_, ?_⟩
  · rw [k 40 (by omega) (by omega)]; exact h1
  · rw [k 40 (by omega) (by omega)]; exact h2
  · rw [k 40 (by omega) (by omega)]; exact h3
  · rw [k 40 (by omega) (by omega)]; exact h4
  · rw [k 40 (by omega) (by omega)]; exact h5
  · rw [k 45 (by omega) (by omega), k 46 (by omega) (by omega)]; exact h6
  · rw [k 40 (by omega) (by omega)]; exact h8
  · rw [k (57 + 4 * T) (by omega) (by omega), k (58 + 4 * T) (by omega) (by omega)]; exact h9
  · rw [k (57 + 4 * T) (by omega) (by omega), k (58 + 4 * T) (by omega) (by omega)]; exact h10
theorem x_later {w : hWd} {T : Nat} {X : hMem} (hw : okW w) (h : MX w T X) {a b : Nat} {s : Nat × Nat} (ha : a ≤ 48) (hb : b ≤ 24) (h1 : s.1 < 32) (h2 : s.2 < 3) : ∃ X', fX8_later (nI (stN s)) (nI a) (nI b) X = some (nI (stN (runS noH w a (b - a) s)), X') ∧ kT X X' := by
  unfold fX8_later
  obtain ⟨r, g1, g2, g3⟩ := lp_h (body := fX8_later_L6 (nI b)) (fun z => ∃ (n : Nat) (Y : hMem), z = (nI (stN (runS noH w a n s)), nI (a + n), Y) ∧ kT X Y ∧ (n = 0 ∨ a + n ≤ b)) (fun r => r.1 = nI (stN (runS noH w a (b - a) s)) ∧ kT X r.2) (fun z => 48 - z.2.1.toNatClampNeg) (by
    rintro k z ⟨n, Y, rfl, hk, hn⟩ hkk
    unfold fX8_later_L6
    dsimp only
    by_cases hlt : a + n < b
    · rw [if_neg (nI_ge hlt (by omega))]
      have hl := runS_lt (hl := noH) (w := w) (a := a) h1 h2 n
      obtain ⟨Y', e1, e2⟩ := x_next hw (h.kT hk) (t := a + n) (q := (runS noH w a n s).1) (l := (runS noH w a n s).2) (by omega) hl.1 hl.2
      rw [e1, Option.bind_some]
      dsimp only
      rw [nI_1]
      refine hkk _ ⟨n + 1, Y', ?_, hk.tr e2, Or.inr (by omega)⟩ ?_
      · rw [runS_s]; rfl
      · dsimp only; rw [nI_clamp (by omega), nI_clamp (by omega)]; omega
    · rw [if_pos (nI_le (by omega) (by omega))]
      refine ⟨_, rfl, ?_, hk⟩
      have : n = b - a := by omega
      rw [this]) h_FU (nI (stN s), nI a, X) ⟨0, X, rfl, kT.rf X, Or.inl rfl⟩ (by show 48 - _ < 20000; omega)
  exact ⟨r.2, by rw [g1, ← g2], g3⟩
/-- a path's row -/
def isPath (a : Nat) : Prop := a = 47 ∨ (51 ≤ a ∧ a ≤ 54)
theorem x_follow {w : hWd} {T : Nat} {X : hMem} (hw : okW w) (h : MX w T X) {a : Nat} (ha : isPath a) {s : Nat × Nat} (h5 : X 40 5 = nI (stN s)) (h1 : s.1 < 32) (h2 : s.2 < 3) : ∃ X', fX8_follow a X = some X' ∧ (∀ q, q ≠ a → q ≠ 48 → ¬ (59 ≤ q ∧ q < 80 ∧ q % 4 = 3) → X' q = X q) ∧ ∀ n, n ≤ 24 → X' a n = nI (stN (runS noH w 0 n s)) := by
  unfold fX8_follow
  unfold isPath at ha
  have hB : h_isB hYx a 10 25 = true := by
    rcases (by omega : a = 47 ∨ a = 51 ∨ a = 52 ∨ a = 53 ∨ a = 54) with rfl | rfl | rfl | rfl | rfl <;> rfl
  rw [if_pos hB]
  obtain ⟨r, g1, g2⟩ := lp_u0 (body := fX8_follow_L9 a) 24 (fun i z => ∃ Y : hMem, z = (nI i, Y) ∧ (∀ q, q ≠ a → q ≠ 48 → ¬ (59 ≤ q ∧ q < 80 ∧ q % 4 = 3) → Y q = X q) ∧ ∀ n, n ≤ i → Y a n = nI (stN (runS noH w 0 n s))) (fun r => (∀ q, q ≠ a → q ≠ 48 → ¬ (59 ≤ q ∧ q < 80 ∧ q % 4 = 3) → r q = X q) ∧ ∀ n, n ≤ 24 → r a n = nI (stN (runS noH w 0 n s))) (0, h_up X a 0 (X 40 5)) ⟨_, rfl, fun q h1 _ _ => m_row h1, fun n hn => by
      rw [show n = 0 from by omega, m_own, u_s, h5]; rfl⟩ (by decide) (by
    rintro k z ⟨Y, rfl, hY, hp⟩
    unfold fX8_follow_L9
    dsimp only
    rw [if_pos (show (24 : Int32) ≤ nI 24 from nI_le (a := 24) (Nat.le_refl _) (by decide))]
    exact ⟨Y, rfl, hY, hp⟩) (by
    rintro k i z hi ⟨Y, rfl, hY, hp⟩ hk
    unfold fX8_follow_L9
    dsimp only
    rw [if_neg (show ¬ (24 : Int32) ≤ nI i from nI_ge (b := 24) hi (by decide)), if_pos (ib_mk (by omega) (by decide)), nI_clamp (by omega), hp i (Nat.le_refl _)]
    have hl := runS_lt (hl := noH) (w := w) (a := 0) h1 h2 i
    have kY : kP X Y := fun q h1 h2 => hY q (by omega) (by omega) h2
    obtain ⟨Y', e1, e2⟩ := x_next hw (h.kP kY) (t := i) (q := (runS noH w 0 i s).1) (l := (runS noH w 0 i s).2) (by omega) hl.1 hl.2
    rw [e1, Option.bind_some]
    dsimp only
    rw [nI_1, if_pos (ib_mk (by omega) (by decide)), nI_clamp (by omega)]
    refine hk _ ⟨_, rfl, fun q h1 h2 h3 => ?_, fun n hn => ?_⟩
    · rw [m_row h1, e2 q h2 h3]; exact hY q h1 h2 h3
    · rw [m_own]
      by_cases en : n = i + 1
      · rw [en, u_s, runS_s, Nat.zero_add]; rfl
      · rw [u_n en, e2 a (by omega) (by omega)]; exact hp n (by omega))
  exact ⟨r, g1, g2⟩
/-! the other one's -/
theorem m_begins {M : hMem} {h : Nat} (hh : h < 4) : fX10_begins (nI h) M = some (h_up (h_up M 0 36 (M 6 h)) 0 37 (M 7 h)) := by
  unfold fX10_begins
  rw [if_pos (ib_mk hh (by decide)), if_pos (ib_mk hh (by decide)), nI_clamp (by omega), m_row (by omega)]
theorem kS_b (M : hMem) (x y : Int32) : kS M (h_up (h_up M 0 36 x) 0 37 y) := ⟨fun a h1 _ _ => by rw [m_row h1, m_row h1], fun j h1 h2 => by rw [m_own, u_n h2, m_own, u_n h1]⟩
theorem m_goesOn {w : hWd} {h : Nat} {c e : Nat → Int32} {M : hMem} (hw : okW w) (m : MM w h c e M) {n q l : Nat} (hn : n ≤ 24) (hq : q < 32) (hl : l < 3) (h36 : M 0 36 = nI q) (h37 : M 0 37 = nI l) : ∃ M', fX10_goesOn (nI h) (nI n) M = some M' ∧ kS M M' ∧ M' 0 36 = nI (runS (hldM M) w 0 n (q, l)).1 ∧ M' 0 37 = nI (runS (hldM M) w 0 n (q, l)).2 := by
  unfold fX10_goesOn
  obtain ⟨r, g1, g2⟩ := lp_u0 (body := fX10_goesOn_L2 (nI h) (nI n)) n (fun i z => ∃ Y : hMem, z = (nI i, Y) ∧ kS M Y ∧ Y 0 36 = nI (runS (hldM M) w 0 i (q, l)).1 ∧ Y 0 37 = nI (runS (hldM M) w 0 i (q, l)).2) (fun r => kS M r ∧ r 0 36 = nI (runS (hldM M) w 0 n (q, l)).1 ∧ r 0 37 = nI (runS (hldM M) w 0 n (q, l)).2) (0, M) ⟨M, rfl, kS.rf M, h36, h37⟩ (by omega) (by
    rintro k z ⟨Y, rfl, hY, y1, y2⟩
    unfold fX10_goesOn_L2
    dsimp only
    rw [if_pos (nI_le (Nat.le_refl _) (by omega))]
    exact ⟨Y, rfl, hY, y1, y2⟩) (by
    rintro k i z hi ⟨Y, rfl, hY, y1, y2⟩ hk
    unfold fX10_goesOn_L2
    dsimp only
    rw [if_neg (nI_ge hi (by omega))]
    have hL := runS_lt (hl := hldM M) (w := w) (a := 0) (s := (q, l)) hq hl i
    obtain ⟨Y', e1, e2, e3, e4⟩ := m_seconds hw (m.kS hY) (t := i) (by omega) hL.1 hL.2 y1 y2
    rw [e1, Option.bind_some, nI_1]
    rw [hldM_c hY] at e3 e4
    refine hk _ ⟨Y', rfl, hY.tr e2, ?_, ?_⟩
    · rw [e3, runS_s, Nat.zero_add]
    · rw [e4, runS_s, Nat.zero_add])
  exact ⟨r, g1, g2⟩
theorem m_behind {w : hWd} {h : Nat} {c e : Nat → Int32} {M : hMem} (hw : okW w) (m : MM w h c e M) {n q l : Nat} (hn : n ≤ 24) (hq : q < 32) (hl : l < 3) (h6 : M 6 h = nI q) (h7 : M 7 h = nI l) : ∃ M', fX10_squareBehind (nI h) (nI n) M = some (nI (runS (hldM M) w 0 n (q, l)).1, M') ∧ kS M M' ∧ M' 0 36 = nI (runS (hldM M) w 0 n (q, l)).1 ∧ M' 0 37 = nI (runS (hldM M) w 0 n (q, l)).2 := by
  unfold fX10_squareBehind
  rw [m_begins m.1, Option.bind_some, h6, h7]
  have kb := kS_b M (nI q) (nI l)
  obtain ⟨M', e1, e2, e3, e4⟩ := m_goesOn hw (m.kS kb) (n := n) hn hq hl (by rw [m_own, u_n (by omega), m_own, u_s]) (by rw [m_own, u_s])
  rw [hldM_c kb] at e3 e4
  rw [e1, Option.bind_some, e3]
  exact ⟨M', rfl, kb.tr e2, e3, e4⟩
/-! out of the relation -/
def wOf (X M : hMem) (h r : Nat) : hWd := (M 1, M 2, M 3, (M 4 h).toNatClampNeg, (M 5 h).toNatClampNeg, evX (X (57 + 4 * r)) (X (58 + 4 * r)))
theorem bnd0 (v : Int32) : h_ib (bndV 0 v) 10 := by
  unfold bndV
  rw [if_pos rfl]
  rw [ib_int]
  by_cases h1 : 0 ≤ v
  · rw [if_pos h1]
    by_cases h2 : v ≤ 9
    · rw [if_pos h2]
      have := Int32.le_iff_toInt_le.mp h2
      have h3 := Jvm.Kit.i32_nonneg.mp h1
      rw [show (9 : Int32).toInt = 9 from by decide] at this
      omega
    · rw [if_neg h2]; decide
  · rw [if_neg h1]; decide
theorem bnd1 (v : Int32) : h_ib (bndV 1 v) 3 := by
  unfold bndV
  rw [if_neg (by decide), if_pos rfl]
  obtain ⟨n, ⟨h1, h2⟩ | ⟨h1, h2⟩⟩ := rem3 v
  · have e : h_rem v 3 = nI (n % 3) := Int32.toInt_inj.mp (by rw [h2, nI_toInt (by omega)])
    rw [e]
    rcases (by omega : n % 3 = 0 ∨ n % 3 = 1 ∨ n % 3 = 2) with q | q | q <;> rw [q] <;> decide
  · rcases (by omega : n % 3 = 0 ∨ n % 3 = 1 ∨ n % 3 = 2) with q | q | q
    · rw [show h_rem v 3 = 0 from Int32.toInt_inj.mp (by rw [h2, q]; decide)]; decide
    · rw [show h_rem v 3 = -1 from Int32.toInt_inj.mp (by rw [h2, q]; decide)]; decide
    · rw [show h_rem v 3 = -2 from Int32.toInt_inj.mp (by rw [h2, q]; decide)]; decide
theorem evX_b (c e nm : Nat → Int32) : h_ib (evX c e 0 nm) 10 ∧ h_ib (evX c e 1 nm) 3 := ⟨bnd0 _, bnd1 _⟩
/-- the rule, and its text -/
theorem RR.rule {X M : hMem} (R : RR X M) : ∃ r, r < 6 ∧ X 1 7 = nI r ∧ M 0 15 = nI r ∧ gText (X (57 + 4 * r)) (X (58 + 4 * r)) (fun i => M 10 (200 * r + i)) (fun p => M 11 (4 * r + p)) := by
  obtain ⟨T, t1, t2, t3, t4, ⟨-, -, -, -, -, -, n7⟩, -, -, -, -, -, tx, -⟩ := R
  obtain ⟨r, r1, r2, r3⟩ := ib_ex n7.2
  exact ⟨r, by omega, n7.1.trans r3, r3, tx r r1⟩
theorem RR.hold {X M : hMem} (R : RR X M) : M 0 39 = 0 := by
  obtain ⟨T, t1, t2, t3, t4, -, -, -, h, -⟩ := R
  exact h
theorem RR.okw {X M : hMem} (R : RR X M) {h r : Nat} (hh : h < 4) : okW (wOf X M h r) := by
  obtain ⟨-, -, -, e1, e2, -, -⟩ := R.hatE hh
  refine ⟨fun t ht => (R.gust ht).2.2.1, ?_, ?_, fun nm => evX_b _ _ nm⟩
  · exact e1.2
  · exact e2.2
theorem RR.mmw {X M : hMem} (R : RR X M) {h r : Nat} (hh : h < 4) (hr : r < 6) (h15 : M 0 15 = nI r) (hg : gText (X (57 + 4 * r)) (X (58 + 4 * r)) (fun i => M 10 (200 * r + i)) (fun p => M 11 (4 * r + p))) : MM (wOf X M h r) h (X (57 + 4 * r)) (X (58 + 4 * r)) M := by
  obtain ⟨-, -, -, e1, e2, -, -⟩ := R.hatE hh
  exact ⟨hh, fun _ _ => rfl, fun _ _ => ⟨rfl, rfl⟩, n_of_ib e1, n_of_ib e2, ⟨r, hr, h15, hg⟩, rfl⟩
theorem RR.sqE {X M : hMem} (R : RR X M) {h : Nat} (hh : h < 4) : ∃ q l, q < 32 ∧ l < 3 ∧ M 6 h = nI q ∧ M 7 h = nI l ∧ X (7 + h) 2 = nI (stN (q, l)) := by
  obtain ⟨-, -, e3, -, -, e6, e7⟩ := R.hatE hh
  obtain ⟨q, q1, -, q3⟩ := ib_ex e6
  obtain ⟨l, l1, -, l3⟩ := ib_ex e7
  refine ⟨q, l, q1, l1, q3, l3, ?_⟩
  rw [e3, q3, l3, show (32 : Int32) = nI 32 from rfl, pk_mul, nI_add]
  congr 1
  show l * 32 + q = 32 * l + q
  omega
theorem x_think {X M : hMem} (R : RR X M) {h r : Nat} (hh : h < 4) (hr : r < 6) (h17 : X 1 7 = nI r) (hg : gText (X (57 + 4 * r)) (X (58 + 4 * r)) (fun i => M 10 (200 * r + i)) (fun p => M 11 (4 * r + p))) : ∃ X', fX9_think (nI h) X = some X' ∧ MX (wOf X M h r) r X' ∧ X' 40 5 = X (7 + h) 2 ∧ ∀ a, a < 40 ∨ 55 < a → X' a = X a := by
  unfold fX9_think
  rw [if_pos (ib_mk hh (by decide)), h17, if_pos (ib_mk hr (by decide)), nI_clamp (by omega), nI_clamp (by omega)]
  unfold fX8_suppose fX8_suppose_L68
  have hB1 : h_isB hYx (7 + h) 2 0 = true := h_forall (N := 4) (p := fun h => h_isB hYx (7 + h) 2 0) (by decide +kernel) hh
  have hB2 : h_isB hYx (56 + 4 * r) 3 0 = true := h_forall (N := 6) (p := fun T => h_isB hYx (56 + 4 * T) 3 0) (by decide +kernel) hr
  have hB3 : h_cpb 0 0 24 24 24 = true := by decide
  rw [if_pos hB1, if_pos hB2, if_pos hB3, if_pos hB3, Option.bind_some]
  obtain ⟨a1, a2, a3, a4, a5, a6, a7⟩ := R.hatE hh
  refine ⟨_, rfl, ⟨?_, ?_, ?_, ?_, ?_, ?_, hr, ?_, ?_, ?_⟩, ?_, ?_⟩
  · simp (disch := omega) only [m_row, m_own, u_s, u_n, m_cpr]
    exact R.setsE (by omega)
  · simp (disch := omega) only [m_row, m_own, u_s, u_n, m_cpr]
    exact R.setsE (by omega)
  · simp (disch := omega) only [m_row, m_own, u_s, u_n, m_cpr]
    exact R.setsE (by omega)
  · simp (disch := omega) only [m_row, m_own, u_s, u_n, m_cpr]
    exact a1.trans (n_of_ib a4)
  · simp (disch := omega) only [m_row, m_own, u_s, u_n, m_cpr]
    exact a2.trans (n_of_ib a5)
  · intro t ht
    simp (disch := omega) only [m_row, m_own, m_cpr, m_cpo]
    have e24 : (24 : Int32).toNatClampNeg = 24 := by decide
    have e00 : (0 : Int32).toNatClampNeg = 0 := by decide
    rw [e24, e00, pk_cpy_in (by omega) (by omega), pk_cpy_in (by omega) (by omega), Nat.sub_zero, Nat.zero_add]
    exact ⟨(R.gust ht).1, (R.gust ht).2.1⟩
  · simp (disch := omega) only [m_own, u_s]
  · simp (disch := omega) only [m_row, m_own, m_cpr]
    exact ⟨_, _, hg⟩
  · simp (disch := omega) only [m_row, m_own, m_cpr]
    rfl
  · simp (disch := omega) only [m_row, m_own, u_s, u_n, m_cpr]
  · intro a ha
    simp (disch := omega) only [m_row, m_own, m_cpr]
theorem kP.X {X Y Z : hMem} (h : ∀ a, a < 40 ∨ 55 < a → Y a = X a) (g : kP Y Z) : keepX X Z := by
  refine ⟨fun a ha => ?_, ?_⟩
  · unfold kX at ha
    rw [g a (by omega) (by omega), h a (by omega)]
  · rw [g 30 (by omega) (by omega), h 30 (by omega)]
theorem kS.keep {M M' : hMem} (k : kS M M') : keepM M M' := by
  refine ⟨fun a ha => ?_, fun j hj => ?_⟩
  · unfold kM at ha; exact k.1 a (by omega) (by omega) (by omega)
  · unfold kM0 at hj; exact k.2 j (by omega) (by omega)
theorem x_sqS {s : Nat × Nat} (h1 : s.1 < 32) (h2 : s.2 < 3) (M : hMem) : fX9_squareOf (nI (stN s)) M = nI s.1 := x_sqOf h1 h2 M
theorem x_lieS {s : Nat × Nat} (h1 : s.1 < 32) (h2 : s.2 < 3) (M : hMem) : fX9_lieOf (nI (stN s)) M = nI s.2 := x_lieOf h1 h2 M
/-- all that a hat's call begins with -/
theorem RR.ctx {X M : hMem} (R : RR X M) {h H : Nat} (hH : H ≤ 4) (hh : h < H) : ∃ (r q l : Nat) (X1 : hMem), r < 6 ∧ q < 32 ∧ l < 3 ∧ okW (wOf X M h r) ∧ MM (wOf X M h r) h (X (57 + 4 * r)) (X (58 + 4 * r)) M ∧ M 6 h = nI q ∧ M 7 h = nI l ∧ fX9_think (nI h) X = some X1 ∧ MX (wOf X M h r) r X1 ∧ X1 40 5 = nI (stN (q, l)) ∧ (∀ a, a < 40 ∨ 55 < a → X1 a = X a) ∧ M 0 15 = nI r ∧ gText (X (57 + 4 * r)) (X (58 + 4 * r)) (fun i => M 10 (200 * r + i)) (fun p => M 11 (4 * r + p)) := by
  obtain ⟨r, r1, r2, r3, r4⟩ := R.rule
  obtain ⟨q, l, q1, l1, q2, l2, e5⟩ := R.sqE (h := h) (by omega)
  obtain ⟨X1, x1, x2, x3, x4⟩ := x_think R (h := h) (by omega) r1 r2 r4
  exact ⟨r, q, l, X1, r1, q1, l1, R.okw (h := h) (by omega), R.mmw (h := h) (by omega) r1 r3 r4, q2, l2, x1, x2, x3.trans e5, x4, r3, r4⟩
theorem runH0 {X M : hMem} (R : RR X M) (w : hWd) (a n : Nat) (s : Nat × Nat) : runS (hldM M) w a n s = runS noH w a n s := runS_c (fun j _ => hldM_0 R.hold _)
theorem eq_at {X M : hMem} (R : RR X M) (a b c : Int32) : EqC (fX9_at a b c X) (fX10_at a b c M) := by
  obtain ⟨H, hH, hx, hm⟩ := R.hats
  unfold fX9_at fX10_at
  rw [xe_hat hx (by omega), me_hat hm (by omega), b01, b01, xe_beh, me_sec, b01, b01, xe_01, me_in1, b01, b01]
  by_cases ha : h_ib a H
  · by_cases hb : h_ib b 25
    · by_cases hc : h_ib c 2
      · simp only [if_pos ha, if_pos hb, if_pos hc]
        obtain ⟨h, h1, h2, rfl⟩ := ib_ex ha
        obtain ⟨n, n1, n2, rfl⟩ := ib_ex hb
        obtain ⟨r, q, l, X1, r1, q1, l1, ok, mm, q2, l2, x1, x2, x3, x4, -, -⟩ := R.ctx hH h1
        obtain ⟨X2, y1, y2⟩ := x_later ok x2 (a := 0) (b := n) (s := (q, l)) (by omega) (by omega) q1 l1
        obtain ⟨M2, z1, z2, z3, z4⟩ := m_behind ok mm (n := n) (by omega) q1 l1 q2 l2
        rw [x1, Option.bind_some, x3, show fX8_later (nI (stN (q, l))) 0 (nI n) X1 = _ from y1, z1, Option.bind_some, Option.bind_some]
        dsimp only
        have hL := runS_lt (hl := noH) (w := wOf X M h r) (a := 0) (s := (q, l)) q1 l1 n
        rw [runH0 R] at z3 z4 ⊢
        rw [Nat.sub_zero, x_sqS hL.1 hL.2, x_lieS hL.1 hL.2, z4]
        have R' := R.keep (kP.X x4 y2.P) z2.keep
        by_cases e : c = 0
        · rw [if_pos e, if_pos e]; exact EqC.now R'
        · rw [if_neg e, if_neg e]; exact EqC.now R'
      · simp only [if_pos ha, if_pos hb, if_neg hc]; exact EqC.now R
    · simp only [if_pos ha, if_neg hb]; exact EqC.now R
  · simp only [if_neg ha]; exact EqC.now R
end
section
/-! WHERE IT GOES -/
theorem lpp {σ ρ σ' ρ' : Type} {body : (σ → Option ρ) → σ → Option ρ} {body' : (σ' → Option ρ') → σ' → Option ρ'} (e : Nat) (P : Nat → σ → σ' → Prop) (Q : ρ → ρ' → Prop) (hx : ∀ (k : σ → Option ρ) (k' : σ' → Option ρ') s s', P e s s' → ∃ r r', body k s = some r ∧ body' k' s' = some r' ∧ Q r r') (hs : ∀ (k : σ → Option ρ) (k' : σ' → Option ρ') i s s', i < e → P i s s' → (∀ t t', P (i + 1) t t' → ∃ r r', k t = some r ∧ k' t' = some r' ∧ Q r r') → ∃ r r', body k s = some r ∧ body' k' s' = some r' ∧ Q r r') : ∀ (n i : Nat) s s', i ≤ e → P i s s' → e - i < n → ∃ r r', h_lp body n s = some r ∧ h_lp body' n s' = some r' ∧ Q r r' := by
  intro n
  induction n with
  | zero => intro i s s' _ _ h0; exact absurd h0 (Nat.not_lt_zero _)
  | succ n ih =>
    intro i s s' hi hp hn
    rcases Nat.lt_or_ge i e with h | h
    · exact hs _ _ i s s' h hp (fun t t' h1 => ih (i + 1) t t' (by omega) h1 (by omega))
    · have he : i = e := by omega
      subst he
      exact hx _ _ s s' hp
/-- the same, from 0 on -/
theorem lp20 {σ ρ σ' ρ' : Type} {body : (σ → Option ρ) → σ → Option ρ} {body' : (σ' → Option ρ') → σ' → Option ρ'} (e : Nat) (P : Nat → σ → σ' → Prop) (Q : ρ → ρ' → Prop) (s : σ) (s' : σ') (h0 : P 0 s s') (he : e < 20000) (hx : ∀ (k : σ → Option ρ) (k' : σ' → Option ρ') s s', P e s s' → ∃ r r', body k s = some r ∧ body' k' s' = some r' ∧ Q r r') (hs : ∀ (k : σ → Option ρ) (k' : σ' → Option ρ') i s s', i < e → P i s s' → (∀ t t', P (i + 1) t t' → ∃ r r', k t = some r ∧ k' t' = some r' ∧ Q r r') → ∃ r r', body k s = some r ∧ body' k' s' = some r' ∧ Q r r') : ∃ r r', h_lp body h_FU s = some r ∧ h_lp body' h_FU s' = some r' ∧ Q r r' :=
  lpp e P Q hx hs h_FU 0 s s' (Nat.zero_le _) h0 he
/-- answers that are alike, memories that go on alike -/
def EqQ (r r' : Int32 × hMem) : Prop := r.1 = r'.1 ∧ RR r.2 r'.2
theorem EqC.of {fx fm : Option (Int32 × hMem)} (h : ∃ r r', fx = some r ∧ fm = some r' ∧ EqQ r r') : EqC fx fm := by
  obtain ⟨r, r', h1, h2, h3, h4⟩ := h
  exact ⟨r'.1, r.2, r'.2, by rw [h1, ← h3], h2, h4⟩
theorem EqC.m {v : Int32} {X' : hMem} {fm : Option (Int32 × hMem)} (h : ∃ z, fm = some z ∧ z.1 = v ∧ RR X' z.2) : EqC (some (v, X')) fm := by
  obtain ⟨z, h1, h2, h3⟩ := h
  exact ⟨v, X', z.2, rfl, by rw [h1, ← h2], h3⟩
/-- scratch of the other one's -/
def kQ (M M' : hMem) : Prop := (∀ a, (1 ≤ a ∧ a < 18) ∨ 23 < a → M' a = M a) ∧ ∀ j, j ≠ 36 → j ≠ 37 → M' 0 j = M 0 j
theorem kQ.rf (M : hMem) : kQ M M := ⟨fun _ _ => rfl, fun _ _ _ => rfl⟩
theorem kQ.tr {X Y Z : hMem} (h : kQ X Y) (g : kQ Y Z) : kQ X Z := ⟨fun a h1 => (g.1 a h1).trans (h.1 a h1), fun j h1 h2 => (g.2 j h1 h2).trans (h.2 j h1 h2)⟩
theorem kS.Q {M M' : hMem} (k : kS M M') : kQ M M' := ⟨fun a h => k.1 a (by omega) (by omega) (by omega), k.2⟩
theorem kQ.keep {M M' : hMem} (k : kQ M M') : keepM M M' := by
  refine ⟨fun a ha => ?_, fun j hj => ?_⟩
  · unfold kM at ha; exact k.1 a (by omega)
  · unfold kM0 at hj; exact k.2 j (by omega) (by omega)
theorem MM.kQ {w : hWd} {h : Nat} {c e : Nat → Int32} {M M' : hMem} (m : MM w h c e M) (k : kQ M M') : MM w h c e M' := by
  obtain ⟨h1, h2, h3, h4, h5, ⟨r, h6, h7, h8⟩, h9⟩ := m
  refine ⟨h1, ?_, ?_, ?_, ?_, ⟨r, h6, ?_, ?_⟩, h9⟩
  · rw [k.1 1 (by omega)]; exact h2
  · rw [k.1 2 (by omega), k.1 3 (by omega)]; exact h3
  · rw [k.1 4 (by omega)]; exact h4
  · rw [k.1 5 (by omega)]; exact h5
  · rw [k.2 15 (by omega) (by omega)]; exact h7
  · rw [k.1 10 (by omega), k.1 11 (by omega)]; exact h8
theorem hldM_q {M M' : hMem} (k : kQ M M') : hldM M' = hldM M := by
  funext t
  unfold hldM
  rw [k.2 38 (by omega) (by omega), k.2 39 (by omega) (by omega)]
theorem hld_no {X M M' : hMem} (R : RR X M) (k : kQ M M') : hldM M' = noH := by
  funext t
  rw [hldM_q k]
  exact hldM_0 R.hold t
/-- the first of n from i on -/
def frst (p : Nat → Bool) : Nat → Nat → Option Nat
  | 0, _ => none
  | n + 1, i => if p i = true then some i else frst p n (i + 1)
theorem frst_s (p : Nat → Bool) (n i : Nat) : frst p (n + 1) i = if p i = true then some i else frst p n (i + 1) := rfl
def ansI (o : Option Nat) : Int32 := match o with | none => -1 | some n => nI n
theorem frst_c {p q : Nat → Bool} : ∀ {n i : Nat}, (∀ j, i ≤ j → j < i + n → p j = q j) → frst p n i = frst q n i
  | 0, _, _ => rfl
  | n + 1, i, h => by rw [frst_s, frst_s, h i (Nat.le_refl _) (by omega), frst_c (n := n) (i := i + 1) (fun j h1 h2 => h j (by omega) (by omega))]
theorem frst_lt {p : Nat → Bool} : ∀ {n i j : Nat}, frst p n i = some j → i ≤ j ∧ j < i + n ∧ p j = true
  | 0, _, _, h => by cases h
  | n + 1, i, j, h => by
    rw [frst_s] at h
    by_cases hp : p i = true
    · rw [if_pos hp] at h; cases h; exact ⟨Nat.le_refl _, by omega, hp⟩
    · rw [if_neg hp] at h
      have := frst_lt h
      exact ⟨by omega, by omega, this.2.2⟩
theorem x_first {w : hWd} {T : Nat} {X : hMem} (hw : okW w) (h : MX w T X) {s : Nat × Nat} (h5 : X 40 5 = nI (stN s)) (h1 : s.1 < 32) (h2 : s.2 < 3) (S : Int32) : ∃ X', fX8_firstIn S X = some (ansI (frst (fun n => bt S (runS noH w 0 n s).1) 25 0), X') ∧ kP X X' := by
  unfold fX8_firstIn
  obtain ⟨X', e1, e2, e3⟩ := x_follow hw h (a := 47) (Or.inl rfl) h5 h1 h2
  rw [e1, Option.bind_some]
  refine ⟨X', ?_, fun a q1 q2 => e2 a (by omega) (by omega) q2⟩
  obtain ⟨r, g1, g2⟩ := lp_u0 (body := fX8_firstIn_L10 S X') 25 (fun i z => z = nI i ∧ frst (fun n => bt S (runS noH w 0 n s).1) (25 - i) i = frst (fun n => bt S (runS noH w 0 n s).1) 25 0) (fun r => r = (ansI (frst (fun n => bt S (runS noH w 0 n s).1) 25 0), X')) 0 ⟨rfl, rfl⟩ (by decide) (by
    rintro k z ⟨rfl, hz⟩
    unfold fX8_firstIn_L10
    rw [if_pos (by decide)]
    exact ⟨_, rfl, by rw [← hz]; rfl⟩) (by
    rintro k i z hi ⟨rfl, hz⟩ hk
    unfold fX8_firstIn_L10
    have hL := runS_lt (hl := noH) (w := w) (a := 0) h1 h2 i
    rw [if_neg (show ¬ (24 : Int32) < nI i from nI_nlt (b := i) (a := 24) (by omega) (by decide)), if_pos (ib_mk hi (by decide))]
    simp only [nI_clamp (show i < 2 ^ 31 by omega)]
    rw [e3 i (by omega), x_sqS hL.1 hL.2, bit_u _ hL.1, b01]
    obtain ⟨m, hm⟩ : ∃ m, 25 - i = m + 1 := ⟨24 - i, by omega⟩
    rw [hm, frst_s] at hz
    by_cases hb : bt S (runS noH w 0 i s).1 = true
    · rw [if_pos hb] at hz ⊢; exact ⟨_, rfl, by rw [← hz]; rfl⟩
    · rw [if_neg hb] at hz ⊢
      rw [nI_1]
      exact hk _ ⟨rfl, by rw [show 25 - (i + 1) = m from by omega]; exact hz⟩)
  rw [g1, g2]
theorem eq_when {X M : hMem} (R : RR X M) (a b : Int32) : EqC (fX9_when a b X) (fX10_when a b M) := by
  obtain ⟨H, hH, hx, hm⟩ := R.hats
  unfold fX9_when fX10_when
  rw [xe_hat hx (by omega), me_hat hm (by omega), b01, b01, xe_sq, me_sq, b01, b01]
  by_cases ha : h_ib a H
  · by_cases hb : h_ib b 32
    · simp only [if_pos ha, if_pos hb]
      obtain ⟨h, h1, h2, rfl⟩ := ib_ex ha
      obtain ⟨c, c1, c2, rfl⟩ := ib_ex hb
      obtain ⟨r, q, l, X1, r1, q1, l1, ok, mm, q2, l2, x1, x2, x3, x4, -, -⟩ := R.ctx hH h1
      obtain ⟨X2, y1, y2⟩ := x_first ok x2 (s := (q, l)) x3 q1 l1 (1 <<< (nI c &&& 31))
      rw [x1, Option.bind_some, y1, Option.bind_some, m_begins mm.1, Option.bind_some, q2, l2]
      have kb := kS_b M (nI q) (nI l)
      have hp : frst (fun n => bt (1 <<< (nI c &&& 31)) (runS noH (wOf X M h r) 0 n (q, l)).1) 25 0 = frst (fun n => decide ((runS noH (wOf X M h r) 0 n (q, l)).1 = c)) 25 0 := frst_c (fun j _ _ => b_pow c1 (runS_lt (s := (q, l)) q1 l1 j).1)
      rw [hp]
      refine EqC.m ?_
      obtain ⟨z, g1, g2, g3⟩ := lp_u0 (body := fX10_when_L28 (nI h) (nI c)) 25 (fun i z => ∃ Y : hMem, z = (nI i, Y) ∧ kS M Y ∧ (i ≤ 24 → Y 0 36 = nI (runS noH (wOf X M h r) 0 i (q, l)).1 ∧ Y 0 37 = nI (runS noH (wOf X M h r) 0 i (q, l)).2) ∧ frst (fun n => decide ((runS noH (wOf X M h r) 0 n (q, l)).1 = c)) (25 - i) i = frst (fun n => decide ((runS noH (wOf X M h r) 0 n (q, l)).1 = c)) 25 0) (fun z => z.1 = ansI (frst (fun n => decide ((runS noH (wOf X M h r) 0 n (q, l)).1 = c)) 25 0) ∧ kS M z.2) (0, _) ⟨_, rfl, kb, fun _ => ⟨by rw [m_own, u_n (by omega), m_own, u_s]; rfl, by rw [m_own, u_s]; rfl⟩, rfl⟩ (by decide) (by
        rintro k z ⟨Y, rfl, hY, hy, hz⟩
        unfold fX10_when_L28
        dsimp only
        rw [if_pos (by decide)]
        exact ⟨_, rfl, by rw [← hz]; rfl, hY⟩) (by
        rintro k i z hi ⟨Y, rfl, hY, hy, hz⟩ hk
        unfold fX10_when_L28
        dsimp only
        have hL := runS_lt (hl := noH) (w := wOf X M h r) (a := 0) (s := (q, l)) q1 l1 i
        obtain ⟨y1, y2⟩ := hy (by omega)
        obtain ⟨m, hm⟩ : ∃ m, 25 - i = m + 1 := ⟨24 - i, by omega⟩
        rw [hm, frst_s] at hz
        rw [if_neg (show ¬ (24 : Int32) < nI i from nI_nlt (b := i) (a := 24) (by omega) (by decide))]
        simp only [y1]
        by_cases e : (runS noH (wOf X M h r) 0 i (q, l)).1 = c
        · rw [if_pos (decide_eq_true e)] at hz
          rw [if_pos (by rw [e])]
          exact ⟨_, rfl, by rw [← hz]; rfl, hY⟩
        · rw [if_neg (by rw [decide_eq_false e]; decide)] at hz
          rw [if_neg (nI_neq c (by omega) (by omega) e)]
          rcases Nat.lt_or_ge i 24 with hlt | hge
          · rw [if_neg (show ¬ (24 : Int32) ≤ nI i from nI_ge (b := 24) hlt (by decide))]
            obtain ⟨Y', e1, e2, e3, e4⟩ := m_seconds ok (mm.kS hY) (t := i) hlt hL.1 hL.2 y1 y2
            rw [hldM_c hY, hldM_0 R.hold, if_neg (by decide)] at e3 e4
            rw [e1, Option.bind_some, nI_1]
            refine hk _ ⟨Y', rfl, hY.tr e2, fun _ => ⟨?_, ?_⟩, by rw [show 25 - (i + 1) = m from by omega]; exact hz⟩
            · rw [e3, runS_s, Nat.zero_add]; rfl
            · rw [e4, runS_s, Nat.zero_add]; rfl
          · rw [if_pos (show (24 : Int32) ≤ nI i from nI_le (a := 24) hge (by omega)), nI_1]
            exact hk _ ⟨Y, rfl, hY, fun hh => absurd hh (by omega), by rw [show 25 - (i + 1) = m from by omega]; exact hz⟩)
      exact ⟨z, g1, g2, R.keep (kP.X x4 y2) g3.keep⟩
    · simp only [if_pos ha, if_neg hb]; exact EqC.now R
  · simp only [if_neg ha]; exact EqC.now R
theorem eq_over {X M : hMem} (R : RR X M) (a : Int32) : EqC (fX9_over a X) (fX10_over a M) := by
  obtain ⟨H, hH, hx, hm⟩ := R.hats
  unfold fX9_over fX10_over
  rw [xe_hat hx (by omega), me_hat hm (by omega), b01, b01]
  by_cases ha : h_ib a H
  · simp only [if_pos ha]
    obtain ⟨h, h1, h2, rfl⟩ := ib_ex ha
    obtain ⟨r, q, l, X1, r1, q1, l1, ok, mm, q2, l2, x1, x2, x3, x4, -, -⟩ := R.ctx hH h1
    obtain ⟨X2, y1, y2⟩ := x_first ok x2 (s := (q, l)) x3 q1 l1 (X1 40 1)
    rw [x1, Option.bind_some, y1, Option.bind_some, m_begins mm.1, Option.bind_some, q2, l2, x2.2.1]
    have kb := kS_b M (nI q) (nI l)
    show EqC (some (ansI (frst (fun n => bt (M 1 1) (runS noH (wOf X M h r) 0 n (q, l)).1) 25 0), X2)) _
    refine EqC.m ?_
    obtain ⟨z, g1, g2, g3⟩ := lp_u0 (body := fX10_over_L18 (nI h)) 24 (fun i z => ∃ Y : hMem, z = (nI i, Y) ∧ kS M Y ∧ Y 0 36 = nI (runS noH (wOf X M h r) 0 i (q, l)).1 ∧ Y 0 37 = nI (runS noH (wOf X M h r) 0 i (q, l)).2 ∧ frst (fun n => bt (M 1 1) (runS noH (wOf X M h r) 0 n (q, l)).1) (25 - i) i = frst (fun n => bt (M 1 1) (runS noH (wOf X M h r) 0 n (q, l)).1) 25 0) (fun z => z.1 = ansI (frst (fun n => bt (M 1 1) (runS noH (wOf X M h r) 0 n (q, l)).1) 25 0) ∧ kS M z.2) (0, _) ⟨_, rfl, kb, by rw [m_own, u_n (by omega), m_own, u_s]; rfl, by rw [m_own, u_s]; rfl, rfl⟩ (by decide) (by
      rintro k z ⟨Y, rfl, hY, y1, y2, hz⟩
      unfold fX10_over_L18
      dsimp only
      have hL := runS_lt (hl := noH) (w := wOf X M h r) (a := 0) (s := (q, l)) q1 l1 24
      rw [if_pos (by decide), y1, me_has1 hL.1, Option.bind_some, b01, hY.1 1 (by omega) (by omega) (by omega)]
      rw [show 25 - 24 = 0 + 1 from rfl, frst_s] at hz
      by_cases hb : bt (M 1 1) (runS noH (wOf X M h r) 0 24 (q, l)).1 = true
      · rw [if_pos hb] at hz ⊢; exact ⟨_, rfl, by rw [← hz]; rfl, hY⟩
      · rw [if_neg hb] at hz ⊢; exact ⟨_, rfl, by rw [← hz]; rfl, hY⟩) (by
      rintro k i z hi ⟨Y, rfl, hY, y1, y2, hz⟩ hk
      unfold fX10_over_L18
      dsimp only
      have hL := runS_lt (hl := noH) (w := wOf X M h r) (a := 0) (s := (q, l)) q1 l1 i
      obtain ⟨m, hm⟩ : ∃ m, 25 - i = m + 1 := ⟨24 - i, by omega⟩
      rw [hm, frst_s] at hz
      rw [if_neg (show ¬ (24 : Int32) ≤ nI i from nI_ge (b := 24) hi (by decide)), y1, me_has1 hL.1, Option.bind_some, b01, hY.1 1 (by omega) (by omega) (by omega)]
      by_cases hb : bt (M 1 1) (runS noH (wOf X M h r) 0 i (q, l)).1 = true
      · rw [if_pos hb] at hz ⊢; exact ⟨_, rfl, by rw [← hz]; rfl, hY⟩
      · rw [if_neg hb] at hz ⊢
        obtain ⟨Y', e1, e2, e3, e4⟩ := m_seconds ok (mm.kS hY) (t := i) hi hL.1 hL.2 y1 y2
        rw [hldM_c hY, hldM_0 R.hold, if_neg (by decide)] at e3 e4
        rw [e1, Option.bind_some, nI_1]
        refine hk _ ⟨Y', rfl, hY.tr e2, ?_, ?_, by rw [show 25 - (i + 1) = m from by omega]; exact hz⟩
        · rw [e3, runS_s, Nat.zero_add]; rfl
        · rw [e4, runS_s, Nat.zero_add]; rfl)
    exact ⟨z, g1, g2, R.keep (kP.X x4 y2) g3.keep⟩
  · simp only [if_neg ha]; exact EqC.now R
def trk (f : Nat → Nat) : Nat → Int32
  | 0 => 0
  | n + 1 => trk f n ||| (1 <<< (nI (f n) &&& 31))
theorem eq_track {X M : hMem} (R : RR X M) (a b : Int32) : EqC (fX9_track a b X) (fX10_track a b M) := by
  obtain ⟨H, hH, hx, hm⟩ := R.hats
  unfold fX9_track fX10_track
  rw [xe_hat hx (by omega), me_hat hm (by omega), b01, b01, xe_beh, me_sec, b01, b01]
  by_cases ha : h_ib a H
  · by_cases hb : h_ib b 25
    · simp only [if_pos ha, if_pos hb]
      obtain ⟨h, h1, h2, rfl⟩ := ib_ex ha
      obtain ⟨n, n1, n2, rfl⟩ := ib_ex hb
      obtain ⟨r, q, l, X1, r1, q1, l1, ok, mm, q2, l2, x1, x2, x3, x4, -, -⟩ := R.ctx hH h1
      obtain ⟨X', e1, e2, e3⟩ := x_follow ok x2 (a := 47) (Or.inl rfl) x3 q1 l1
      rw [x1, Option.bind_some, e1, Option.bind_some, m_begins mm.1, Option.bind_some, q2, l2]
      have kb := kS_b M (nI q) (nI l)
      have kx : kP X1 X' := fun a q1 q2 => e2 a (by omega) (by omega) q2
      obtain ⟨u, f1, f2⟩ := lp_u0 (body := fX9_track_L41 (nI n) X') (n + 1) (fun i z => z = (trk (fun i => (runS noH (wOf X M h r) 0 i (q, l)).1) i, nI i)) (fun u => u = (trk (fun i => (runS noH (wOf X M h r) 0 i (q, l)).1) (n + 1), X')) (0, 0) rfl (by omega) (by
        rintro k z rfl
        unfold fX9_track_L41
        dsimp only
        rw [if_pos (nI_lt (by omega) (by omega))]
        exact ⟨_, rfl, rfl⟩) (by
        rintro k i z hi rfl hk
        unfold fX9_track_L41
        dsimp only
        have hL := runS_lt (hl := noH) (w := wOf X M h r) (a := 0) (s := (q, l)) q1 l1 i
        rw [if_neg (nI_nlt (by omega) (by omega)), if_pos (ib_mk (by omega) (by decide)), nI_clamp (by omega), e3 i (by omega), x_sqS hL.1 hL.2, nI_1]
        exact hk _ rfl)
      rw [f1, f2]
      refine EqC.m ?_
      obtain ⟨z, g1, g2, g3⟩ := lp_u0 (body := fX10_track_L32 (nI h) (nI n)) n (fun i z => ∃ Y : hMem, z = (trk (fun i => (runS noH (wOf X M h r) 0 i (q, l)).1) (i + 1), nI i, Y) ∧ kS M Y ∧ Y 0 36 = nI (runS noH (wOf X M h r) 0 i (q, l)).1 ∧ Y 0 37 = nI (runS noH (wOf X M h r) 0 i (q, l)).2) (fun z => z.1 = trk (fun i => (runS noH (wOf X M h r) 0 i (q, l)).1) (n + 1) ∧ kS M z.2) (1 <<< (h_up (h_up M 0 36 (nI q)) 0 37 (nI l) 0 36 &&& 31), 0, _) ⟨_, by
        rw [m_own, u_n (by omega), m_own, u_s]
        show _ = ((0 : Int32) ||| (1 <<< (nI q &&& 31)), nI 0, _)
        rw [Int32.zero_or]; rfl, kb, by rw [m_own, u_n (by omega), m_own, u_s]; rfl, by rw [m_own, u_s]; rfl⟩ (by omega) (by
        rintro k z ⟨Y, rfl, hY, y1, y2⟩
        unfold fX10_track_L32
        dsimp only
        rw [if_pos (nI_le (Nat.le_refl _) (by omega))]
        exact ⟨_, rfl, rfl, hY⟩) (by
        rintro k i z hi ⟨Y, rfl, hY, y1, y2⟩ hk
        unfold fX10_track_L32
        dsimp only
        have hL := runS_lt (hl := noH) (w := wOf X M h r) (a := 0) (s := (q, l)) q1 l1 i
        rw [if_neg (nI_ge hi (by omega))]
        obtain ⟨Y', e1, e2, e3, e4⟩ := m_seconds ok (mm.kS hY) (t := i) (by omega) hL.1 hL.2 y1 y2
        rw [hldM_c hY, hldM_0 R.hold, if_neg (by decide)] at e3 e4
        have e5 : runS noH (wOf X M h r) 0 (i + 1) (q, l) = stepS (wOf X M h r) i (runS noH (wOf X M h r) 0 i (q, l)) := by rw [runS_s, Nat.zero_add]; rfl
        rw [e1, Option.bind_some, nI_1, e3]
        refine hk _ ⟨Y', ?_, hY.tr e2, ?_, ?_⟩
        · show _ = (trk _ (i + 1) ||| (1 <<< (nI (runS noH (wOf X M h r) 0 (i + 1) (q, l)).1 &&& 31)), _, _)
          rw [e5]
        · rw [e5]; exact e3
        · rw [e5]; exact e4)
      exact ⟨z, g1, g2, R.keep (kP.X x4 kx) g3.keep⟩
    · simp only [if_pos ha, if_neg hb]; exact EqC.now R
  · simp only [if_neg ha]; exact EqC.now R
end
section
theorem gNow_h {T : Nat} {X M X' M' : hMem} (n : gNow T X M) (hx : ∀ a, 1 ≤ a → a ≤ 14 → a < 7 ∨ 10 < a → X' a = X a) (hm : ∀ a, 1 ≤ a → a ≤ 8 → a < 4 ∨ 7 < a → M' a = M a) (h0 : ∀ j, kM0 j → M' 0 j = M 0 j) (g : gHats (fun h => X' (7 + h)) (M' 4) (M' 5) (M' 6) (M' 7)) : gNow T X' M' := by
  obtain ⟨h1, h2, h3, h4, h5, h6, h7⟩ := n
  refine ⟨?_, ?_, g, gCats_c h4 (fun i hi => hx _ (by omega) (by omega) (by omega)) ?_, ?_, ?_, ?_⟩
  · rw [hx 2 (by omega) (by omega) (by omega), hm 1 (by omega) (by omega) (by omega)]; exact h1
  · rw [hx 3 (by omega) (by omega) (by omega), hx 4 (by omega) (by omega) (by omega), hm 2 (by omega) (by omega) (by omega), hm 3 (by omega) (by omega) (by omega)]; exact h2
  · intro i hi; rw [hm 8 (by omega) (by omega) (by omega)]
  · rw [hx 1 (by omega) (by omega) (by omega), h0 3 (by unfold kM0; omega)]; exact h5
  · rw [hx 1 (by omega) (by omega) (by omega), h0 8 (by unfold kM0; omega)]; exact h6
  · rw [hx 1 (by omega) (by omega) (by omega), h0 15 (by unfold kM0; omega)]; exact h7
/-- n seconds truly pass, for all hats -/
theorem eq_passes {X M : hMem} (R : RR X M) {H n : Nat} (hH : H ≤ 4) (hx : X 1 5 = nI H) (hm : M 0 3 = nI H) (hn : n ≤ 24) : ∃ X' M', fX9_letPass (nI n) X = some X' ∧ fX10_passes (nI n) M = some M' ∧ RR X' M' ∧ X' 1 5 = nI H ∧ M' 0 3 = nI H ∧ (∀ a, a < 7 ∨ (10 < a ∧ a < 40) → X' a = X a) ∧ (∀ a, a = 1 ∨ a = 2 ∨ a = 3 ∨ a = 4 ∨ a = 5 ∨ a = 8 → M' a = M a) := by
  unfold fX9_letPass fX10_passes
  obtain ⟨r, r', g1, g2, g3⟩ := lp20 (body := fX9_letPass_L2 (nI n)) (body' := fX10_passes_L2 (nI n)) H (fun i s s' => ∃ X' M', s = (nI i, X') ∧ s' = (nI i, M') ∧ RR X' M' ∧ X' 1 5 = nI H ∧ M' 0 3 = nI H ∧ (∀ a, a < 7 ∨ (10 < a ∧ a < 40) → X' a = X a) ∧ (∀ a, a = 1 ∨ a = 2 ∨ a = 3 ∨ a = 4 ∨ a = 5 ∨ a = 8 → M' a = M a)) (fun r r' => RR r r' ∧ r 1 5 = nI H ∧ r' 0 3 = nI H ∧ (∀ a, a < 7 ∨ (10 < a ∧ a < 40) → r a = X a) ∧ (∀ a, a = 1 ∨ a = 2 ∨ a = 3 ∨ a = 4 ∨ a = 5 ∨ a = 8 → r' a = M a)) (0, X) (0, M) ⟨X, M, rfl, rfl, R, hx, hm, fun _ _ => rfl, fun _ _ => rfl⟩ (by omega) (by
    rintro k k' s s' ⟨X', M', rfl, rfl, R', hx', hm', fx, fm⟩
    unfold fX9_letPass_L2 fX10_passes_L2
    dsimp only
    simp only [hx', hm']
    rw [if_pos (nI_le (Nat.le_refl _) (by omega)), if_pos (nI_le (Nat.le_refl _) (by omega))]
    exact ⟨_, _, rfl, rfl, R', hx', hm', fx, fm⟩) (by
    rintro k k' i s s' hi ⟨X', M', rfl, rfl, R', hx', hm', fx, fm⟩ hk
    unfold fX9_letPass_L2 fX10_passes_L2
    dsimp only
    simp only [hx', hm']
    rw [if_neg (nI_ge hi (by omega)), if_neg (nI_ge hi (by omega))]
    obtain ⟨r, q, l, X1, r1, q1, l1, ok, mm, q2, l2, x1, x2, x3, x4, -, -⟩ := R'.ctx hH hi
    obtain ⟨X2, y1, y2⟩ := x_later ok x2 (a := 0) (b := n) (s := (q, l)) (by omega) (by omega) q1 l1
    obtain ⟨M2, z1, z2, z3, z4⟩ := m_behind ok mm (n := n) (by omega) q1 l1 q2 l2
    rw [x1, Option.bind_some, x3, show fX8_later (nI (stN (q, l))) 0 (nI n) X1 = _ from y1, z1, Option.bind_some, Option.bind_some, if_pos (ib_mk (by omega) (by decide)), if_pos (ib_mk (by omega) (by decide)), if_pos (ib_mk (by omega) (by decide)), nI_clamp (by omega)]
    dsimp only
    have hL := runS_lt (hl := noH) (w := wOf X' M' i r) (a := 0) (s := (q, l)) q1 l1 n
    rw [runH0 R'] at z3 z4 ⊢
    rw [Nat.sub_zero, nI_1]
    have e37 : (h_up M2 6 i (nI (runS noH (wOf X' M' i r) 0 n (q, l)).1)) 0 37 = nI (runS noH (wOf X' M' i r) 0 n (q, l)).2 := by rw [m_row (by omega)]; exact z4
    rw [e37]
    generalize runS noH (wOf X' M' i r) 0 n (q, l) = z at hL ⊢
    have px : ∀ a, a < 40 ∨ 55 < a → ¬ (59 ≤ a ∧ a < 80 ∧ a % 4 = 3) → X2 a = X' a := fun a h1 h2 => by rw [y2 a (by omega) h2, x4 a h1]
    have pm := z2.1
    refine hk _ _ ⟨_, _, rfl, rfl, R'.now ?_ ?_ ?_ ?_ ?_, ?_, ?_, ?_, ?_⟩
    · intro a ka h2
      unfold kX at ka
      rw [m_row (by omega)]; exact px a (by omega) (by omega)
    · rw [m_row (by omega)]; rw [px 30 (by omega) (by omega)]
    · intro a ka h2
      unfold kM at ka
      rw [m_row (by omega), m_row (by omega)]; exact pm a (by omega) (by omega) (by omega)
    · intro j hj h3 h8 h15
      unfold kM0 at hj
      rw [m_row (by omega), m_row (by omega)]; exact z2.2 j (by omega) (by omega)
    · intro T _ _ _ nn
      refine gNow_h nn ?_ ?_ ?_ ?_
      · intro a h1 h2 h3; rw [m_row (by omega)]; exact px a (by omega) (by omega)
      · intro a h1 h2 h3; rw [m_row (by omega), m_row (by omega)]; exact pm a (by omega) (by omega) (by omega)
      · intro j hj
        unfold kM0 at hj
        rw [m_row (by omega), m_row (by omega)]; exact z2.2 j (by omega) (by omega)
      · intro u hu
        simp (disch := omega) only [m_row, m_own]
        rw [pm 4 (by omega) (by omega) (by omega), pm 5 (by omega) (by omega) (by omega), pm 6 (by omega) (by omega) (by omega), pm 7 (by omega) (by omega) (by omega)]
        have ho := nn.2.2.1 u hu
        dsimp only at ho
        by_cases e : u = i
        · rw [e] at ho ⊢
          rw [m_own, u_n (by omega), u_n (by omega), u_s, u_s, u_s, px (7 + i) (by omega) (by omega)]
          refine ⟨ho.1, ho.2.1, ?_, ho.2.2.2.1, ho.2.2.2.2.1, ib_mk hL.1 (by decide), ib_mk hL.2 (by decide)⟩
          rw [show (32 : Int32) = nI 32 from rfl, pk_mul, nI_add]
          congr 1
          show 32 * z.2 + z.1 = _
          omega
        · rw [m_row (by omega), u_n e, u_n e, px (7 + u) (by omega) (by omega)]
          exact ho
    · rw [m_row (by omega), px 1 (by omega) (by omega)]; exact hx'
    · rw [m_row (by omega), m_row (by omega), z2.2 3 (by omega) (by omega)]; exact hm'
    · intro a ha; rw [m_row (by omega), px a (by omega) (by omega)]; exact fx a ha
    · intro a ha; rw [m_row (by omega), m_row (by omega), pm a (by omega) (by omega) (by omega)]; exact fm a ha)
  exact ⟨r, r', g1, g2, g3⟩
theorem eq_pass {X M : hMem} (R : RR X M) (a : Int32) : EqC (fX9_pass a X) (fX10_pass a M) := by
  obtain ⟨H, hH, hx, hm⟩ := R.hats
  unfold fX9_pass fX10_pass
  rw [xe_beh, me_sec, b01, b01]
  by_cases ha : h_ib a 25
  · simp only [if_pos ha]
    obtain ⟨n, n1, n2, rfl⟩ := ib_ex ha
    obtain ⟨X', M', e1, e2, R', hx', hm', -, -⟩ := eq_passes R hH hx hm (n := n) (by omega)
    rw [e1, e2, Option.bind_some, Option.bind_some]
    refine EqC.of (lp20 (body := fX9_pass_L19 X') (body' := fX10_pass_L19 M') H (fun i s s' => ∃ v, s = (v, nI i) ∧ s' = (v, nI i)) EqQ (0, 0) (0, 0) ⟨0, rfl, rfl⟩ (by omega) ?_ ?_)
    · rintro k k' s s' ⟨v, rfl, rfl⟩
      unfold fX9_pass_L19 fX10_pass_L19
      dsimp only
      rw [hx', hm', if_pos (nI_le (Nat.le_refl _) (by omega)), if_pos (nI_le (Nat.le_refl _) (by omega))]
      exact ⟨_, _, rfl, rfl, rfl, R'⟩
    · rintro k k' i s s' hi ⟨v, rfl, rfl⟩ hk
      unfold fX9_pass_L19 fX10_pass_L19
      dsimp only
      obtain ⟨q, l, q1, l1, q2, l2, e5⟩ := R'.sqE (h := i) (by omega)
      rw [hx', hm', if_neg (nI_ge hi (by omega)), if_neg (nI_ge hi (by omega)), if_pos (ib_mk (by omega) (by decide)), if_pos (ib_mk (by omega) (by decide)), nI_clamp (by omega), e5, x_sqS q1 l1, R'.setsE (k := 1) (by omega), bit_u _ q1, q2, me_has1 q1, Option.bind_some, b01, nI_1]
      by_cases hb : bt (M' 1 1) q = true
      · rw [if_pos hb, if_pos hb]; exact hk _ _ ⟨_, rfl, rfl⟩
      · rw [if_neg hb, if_neg hb]; exact hk _ _ ⟨_, rfl, rfl⟩
  · simp only [if_neg ha]; exact EqC.now R
/-! from where -/
def bitsS (p : Nat → Bool) : Nat → Int32
  | 0 => 0
  | n + 1 => if p n = true then bitsS p n ||| (1 <<< (nI n &&& 31)) else bitsS p n
theorem xe_op {X : hMem} {c : Nat} (hc : c < 32) : fX9_isOpen (nI c) X = if bt (X 2 0) c = true then 0 else 1 := by
  rw [xe_open, if_pos (ib_mk hc (by decide)), nI_clamp (by omega)]
theorem m_comes {w : hWd} {h : Nat} {c e : Nat → Int32} {M : hMem} (hw : okW w) (m : MM w h c e M) (h0 : M 0 39 = 0) {n l : Nat} (hn : n ≤ 24) (hl : l < 3) (h7 : M 7 h = nI l) : ∃ M', fX10_comesFromAll (nI h) (nI n) M = some M' ∧ kQ M M' ∧ ∀ c, c < 32 → M' 22 c = if bt (M 1 0) c = true then -1 else nI (runS noH w 0 n (c, l)).1 := by
  unfold fX10_comesFromAll
  obtain ⟨r, g1, g2⟩ := lp_u0 (body := fX10_comesFromAll_L2 (nI h) (nI n)) 32 (fun i z => ∃ Y : hMem, z = (nI i, Y) ∧ kQ M Y ∧ ∀ c, c < i → Y 22 c = if bt (M 1 0) c = true then -1 else nI (runS noH w 0 n (c, l)).1) (fun r => kQ M r ∧ ∀ c, c < 32 → r 22 c = if bt (M 1 0) c = true then -1 else nI (runS noH w 0 n (c, l)).1) (0, M) ⟨M, rfl, kQ.rf M, fun c hc => absurd hc (Nat.not_lt_zero _)⟩ (by decide) (by
    rintro k z ⟨Y, rfl, hY, hv⟩
    unfold fX10_comesFromAll_L2
    dsimp only
    rw [if_pos (by decide)]
    exact ⟨_, rfl, hY, hv⟩) (by
    rintro k i z hi ⟨Y, rfl, hY, hv⟩ hk
    unfold fX10_comesFromAll_L2
    dsimp only
    have hh := m.1
    rw [if_neg (show ¬ (32 : Int32) ≤ nI i from nI_ge (b := 32) hi (by decide)), if_pos (ib_mk hh (by decide)), nI_clamp (by omega), m_row (by omega), hY.1 7 (by omega), h7]
    have kb : kQ M (h_up (h_up Y 0 36 (nI i)) 0 37 (nI l)) := hY.tr (kS_b Y _ _).Q
    have v36 : (h_up (h_up Y 0 36 (nI i)) 0 37 (nI l)) 0 36 = nI i := by rw [m_own, u_n (by omega), m_own, u_s]
    have v37 : (h_up (h_up Y 0 36 (nI i)) 0 37 (nI l)) 0 37 = nI l := by rw [m_own, u_s]
    have v22 : (h_up (h_up Y 0 36 (nI i)) 0 37 (nI l)) 22 = Y 22 := by rw [m_row (by omega), m_row (by omega)]
    generalize (h_up (h_up Y 0 36 (nI i)) 0 37 (nI l)) = Z at kb v36 v37 v22 ⊢
    have L38 : ∀ Z2 : hMem, kQ M Z2 → Z2 22 = Y 22 → (bt (M 1 0) i = false → Z2 0 36 = nI (runS noH w 0 n (i, l)).1) → ∃ r, fX10_comesFromAll_L38 k (nI h) (nI n) (nI i) Z2 = some r ∧ (kQ M r ∧ ∀ c, c < 32 → r 22 c = if bt (M 1 0) c = true then -1 else nI (runS noH w 0 n (c, l)).1) := by
      intro Z2 k2 w22 w36
      unfold fX10_comesFromAll_L38
      rw [me_has0 hi, Option.bind_some, b01, k2.1 1 (by omega), nI_1]
      have fr : ∀ x : Int32, kQ M (h_up Z2 22 i x) := fun x => k2.tr ⟨fun a h => m_row (by omega), fun j _ _ => by rw [m_row (by omega)]⟩
      by_cases hb : bt (M 1 0) i = true
      · rw [if_pos hb, if_pos (ib_mk hi (by decide)), nI_clamp (by omega)]
        refine hk _ ⟨_, rfl, fr _, fun c hc => ?_⟩
        rw [m_own, w22]
        by_cases e : c = i
        · rw [e, u_s, if_pos hb]
        · rw [u_n e]; exact hv c (by omega)
      · rw [if_neg hb, if_pos (ib_mk hi (by decide)), nI_clamp (by omega)]
        refine hk _ ⟨_, rfl, fr _, fun c hc => ?_⟩
        rw [m_own, w22]
        by_cases e : c = i
        · rw [e, u_s, if_neg hb]
          exact w36 (by cases h : bt (M 1 0) i with | true => exact absurd h hb | false => rfl)
        · rw [u_n e]; exact hv c (by omega)
    rw [me_has0 hi, Option.bind_some, b01, kb.1 1 (by omega)]
    by_cases hb : bt (M 1 0) i = true
    · rw [if_pos hb]
      exact L38 Z kb v22 (fun h => by rw [hb] at h; cases h)
    · rw [if_neg hb]
      obtain ⟨Z2, e1, e2, e3, e4⟩ := m_goesOn hw (m.kQ kb) (n := n) hn hi hl v36 v37
      rw [e1, Option.bind_some]
      refine L38 Z2 (kb.tr e2.Q) (by rw [e2.1 22 (by omega) (by omega) (by omega), v22]) (fun _ => ?_)
      rw [e3, hldM_q kb, runS_c (hl := hldM M) (hl' := noH) (fun j _ => hldM_0 h0 _)])
  exact ⟨r, g1, g2⟩
theorem eq_from {X M : hMem} (R : RR X M) (a b c : Int32) : EqC (fX9_from a b c X) (fX10_from a b c M) := by
  obtain ⟨H, hH, hx, hm⟩ := R.hats
  unfold fX9_from fX10_from
  rw [xe_hat hx (by omega), me_hat hm (by omega), b01, b01, xe_beh, me_sec, b01, b01, xe_sq, me_sq, b01, b01]
  by_cases ha : h_ib a H
  · by_cases hb : h_ib b 25
    · by_cases hc : h_ib c 32
      · simp only [if_pos ha, if_pos hb, if_pos hc]
        obtain ⟨h, h1, h2, rfl⟩ := ib_ex ha
        obtain ⟨n, n1, n2, rfl⟩ := ib_ex hb
        obtain ⟨d, d1, d2, rfl⟩ := ib_ex hc
        obtain ⟨r, q, l, X1, r1, q1, l1, ok, mm, q2, l2, x1, x2, x3, x4, -, -⟩ := R.ctx hH h1
        obtain ⟨M1, e1, e2, e3⟩ := m_comes ok mm R.hold (n := n) (by omega) l1 l2
        rw [x1, Option.bind_some, e1, Option.bind_some]
        have hW : X 2 0 = M 1 0 := R.setsE (by omega)
        have gx := lp_u0 (body := fX9_from_L35 (nI n) (nI d)) 32 (fun i z => ∃ Y : hMem, z = (bitsS (fun k => !bt (M 1 0) k && decide ((runS noH (wOf X M h r) 0 n (k, l)).1 = d)) i, nI i, Y) ∧ kT X1 Y) (fun z => z.1 = bitsS (fun k => !bt (M 1 0) k && decide ((runS noH (wOf X M h r) 0 n (k, l)).1 = d)) 32 ∧ kT X1 z.2) (0, 0, X1) ⟨X1, rfl, kT.rf X1⟩ (by decide) (by
          rintro k z ⟨Y, rfl, hY⟩
          unfold fX9_from_L35
          dsimp only
          rw [if_pos (by decide)]
          exact ⟨_, rfl, rfl, hY⟩) (by
          rintro k i z hi ⟨Y, rfl, hY⟩ hk
          unfold fX9_from_L35
          dsimp only
          rw [if_neg (show ¬ (32 : Int32) ≤ nI i from nI_ge (b := 32) hi (by decide)), xe_op hi, b10, hY 2 (by omega) (by omega), x4 2 (by omega), hW, hY 40 (by omega) (by omega), x3, x_lieS q1 l1, x_stOf, nI_1]
          by_cases hb : bt (M 1 0) i = true
          · rw [if_pos hb]
            refine hk _ ⟨Y, ?_, hY⟩
            show _ = ((if (!bt (M 1 0) i && _) = true then _ else _), _, _)
            rw [hb]; rfl
          · rw [if_neg hb]
            have hb' : bt (M 1 0) i = false := by cases h : bt (M 1 0) i with | true => exact absurd h hb | false => rfl
            obtain ⟨Y2, f1, f2⟩ := x_later ok (x2.kT hY) (a := 0) (b := n) (s := (i, l)) (by omega) (by omega) hi l1
            rw [show fX8_later (nI (32 * l + i)) 0 (nI n) Y = _ from f1, Option.bind_some]
            dsimp only
            have hL := runS_lt (hl := noH) (w := wOf X M h r) (a := 0) (s := (i, l)) hi l1 n
            rw [Nat.sub_zero, x_sqS hL.1 hL.2]
            by_cases e : (runS noH (wOf X M h r) 0 n (i, l)).1 = d
            · rw [if_pos (by rw [e])]
              refine hk _ ⟨Y2, ?_, hY.tr f2⟩
              show _ = ((if (!bt (M 1 0) i && decide ((runS noH (wOf X M h r) 0 n (i, l)).1 = d)) = true then _ else _), _, _)
              rw [hb', decide_eq_true e]; rfl
            · rw [if_neg (nI_neq d (by omega) (by omega) e)]
              refine hk _ ⟨Y2, ?_, hY.tr f2⟩
              show _ = ((if (!bt (M 1 0) i && decide ((runS noH (wOf X M h r) 0 n (i, l)).1 = d)) = true then _ else _), _, _)
              rw [hb', decide_eq_false e]; rfl)
        obtain ⟨z, z1, z2, z3⟩ := gx
        rw [z1]
        refine EqC.m ?_
        obtain ⟨u, u1, u2⟩ := lp_u0 (body := fX10_from_L36 (nI d) M1) 32 (fun i z => z = (bitsS (fun k => !bt (M 1 0) k && decide ((runS noH (wOf X M h r) 0 n (k, l)).1 = d)) i, nI i)) (fun u => u = (bitsS (fun k => !bt (M 1 0) k && decide ((runS noH (wOf X M h r) 0 n (k, l)).1 = d)) 32, M1)) (0, 0) rfl (by decide) (by
          rintro k z rfl
          unfold fX10_from_L36
          dsimp only
          rw [if_pos (by decide)]
          exact ⟨_, rfl, rfl⟩) (by
          rintro k i z hi rfl hk
          unfold fX10_from_L36
          dsimp only
          rw [if_neg (show ¬ (32 : Int32) ≤ nI i from nI_ge (b := 32) hi (by decide)), if_pos (ib_mk hi (by decide))]
          simp only [nI_clamp (show i < 2 ^ 31 by omega), e3 i hi]
          have hL := runS_lt (hl := noH) (w := wOf X M h r) (a := 0) (s := (i, l)) hi l1 n
          rw [Int32.or_zero, nI_1]
          cases hb : bt (M 1 0) i with
          | true =>
            rw [if_pos rfl, if_neg (n_m1' (by omega))]
            refine hk _ ?_
            show _ = ((if (!bt (M 1 0) i && _) = true then _ else _), _)
            rw [hb]; rfl
          | false =>
            simp only [Bool.false_eq_true, if_false]
            by_cases e : (runS noH (wOf X M h r) 0 n (i, l)).1 = d
            · rw [if_pos (by rw [e])]
              refine hk _ ?_
              show _ = ((if (!bt (M 1 0) i && decide ((runS noH (wOf X M h r) 0 n (i, l)).1 = d)) = true then _ else _), _)
              rw [hb, decide_eq_true e]; rfl
            · rw [if_neg (nI_neq d (by omega) (by omega) e)]
              refine hk _ ?_
              show _ = ((if (!bt (M 1 0) i && decide ((runS noH (wOf X M h r) 0 n (i, l)).1 = d)) = true then _ else _), _)
              rw [hb, decide_eq_false e]; rfl)
        exact ⟨u, u1, by rw [u2, z2], by rw [u2]; exact R.keep (kP.X x4 z3.P) e2.keep⟩
      · simp only [if_pos ha, if_pos hb, if_neg hc]; exact EqC.now R
    · simp only [if_pos ha, if_neg hb]; exact EqC.now R
  · simp only [if_neg ha]; exact EqC.now R
end
section
theorem fb_step (p : Nat → Bool) (i : Nat) : nI (fb_ct p (i + 1)) = if p i = true then nI (fb_ct p i + 1) else nI (fb_ct p i) := by
  rw [fb_ct_succ]
  cases h : p i <;> simp
theorem eq_keeps {X M : hMem} (R : RR X M) (a b c : Int32) : EqC (fX9_keeps a b c X) (fX10_keeps a b c M) := by
  obtain ⟨H, hH, hx, hm⟩ := R.hats
  unfold fX9_keeps fX10_keeps
  rw [xe_hat hx (by omega), me_hat hm (by omega), b01, b01, xe_beh, me_sec, b01, b01, xe_01, me_in1, b01, b01]
  by_cases ha : h_ib a H
  · by_cases hb : h_ib b 25
    · by_cases hc : h_ib c 2
      · simp only [if_pos ha, if_pos hb, if_pos hc]
        obtain ⟨h, h1, h2, rfl⟩ := ib_ex ha
        obtain ⟨n, n1, n2, rfl⟩ := ib_ex hb
        obtain ⟨r, q, l, X1, r1, q1, l1, ok, mm, q2, l2, x1, x2, x3, x4, -, -⟩ := R.ctx hH h1
        obtain ⟨M1, e1, e2, e3⟩ := m_comes ok mm R.hold (n := n) (by omega) l1 l2
        rw [x1, Option.bind_some, e1, Option.bind_some]
        have hW : X 2 0 = M 1 0 := R.setsE (by omega)
        let p : Nat → Nat → Bool := fun d k => !bt (M 1 0) k && decide ((runS noH (wOf X M h r) 0 n (k, l)).1 = d)
        have pT : ∀ d k, bt (M 1 0) k = true → p d k = false := fun d k hh => by show (!bt (M 1 0) k && _) = false; rw [hh]; rfl
        have pE : ∀ d k, bt (M 1 0) k = false → (runS noH (wOf X M h r) 0 n (k, l)).1 = d → p d k = true := fun d k hh he => by show (!bt (M 1 0) k && decide ((runS noH (wOf X M h r) 0 n (k, l)).1 = d)) = true; rw [hh, decide_eq_true he]; rfl
        have pN : ∀ d k, ¬ (runS noH (wOf X M h r) 0 n (k, l)).1 = d → p d k = false := fun d k he => by show (!bt (M 1 0) k && decide ((runS noH (wOf X M h r) 0 n (k, l)).1 = d)) = false; rw [decide_eq_false he, Bool.and_false]
        generalize hp : p = p' at pT pE pN
        clear hp p
        -- the tally, made empty
        have L127 : ∀ X2 : hMem, kP X1 X2 → (∀ d, d < 32 → X2 55 d = nI (fb_ct (p' d) 32)) → EqC (h_lp (fX9_keeps_L127 c X2) h_FU (-1, 0, 0)) (h_lp (fX10_keeps_L45 c M1) h_FU (-1, 0, 0)) := by
          intro X2 k2 ht
          refine EqC.of (lp20 (body := fX9_keeps_L127 c X2) (body' := fX10_keeps_L45 c M1) 32 (fun i s s' => ∃ u v, s = (u, v, nI i) ∧ s' = (u, v, nI i)) EqQ (-1, 0, 0) (-1, 0, 0) ⟨_, _, rfl, rfl⟩ (by decide) ?_ ?_)
          · rintro k k' s s' ⟨u, v, rfl, rfl⟩
            unfold fX9_keeps_L127 fX10_keeps_L45
            dsimp only
            simp only [show (32 : Int32) ≤ nI 32 from by decide, if_true]
            have R' := R.keep (kP.X x4 k2) e2.keep
            by_cases ec : c = 0
            · rw [if_pos ec, if_pos ec]; exact ⟨_, _, rfl, rfl, rfl, R'⟩
            · rw [if_neg ec, if_neg ec]; exact ⟨_, _, rfl, rfl, rfl, R'⟩
          · rintro k k' i s s' hi ⟨u, v, rfl, rfl⟩ hk
            unfold fX9_keeps_L127 fX10_keeps_L45
            dsimp only
            rw [if_neg (show ¬ (32 : Int32) ≤ nI i from nI_ge (b := 32) hi (by decide)), if_neg (show ¬ (32 : Int32) ≤ nI i from nI_ge (b := 32) hi (by decide)), if_pos (ib_mk (by omega) (by decide)), if_pos (ib_mk (by omega) (by decide))]
            simp only [nI_clamp (show i < 2 ^ 31 by omega), ht i hi]
            have L107 : ∃ r r', (if nI (fb_ct (p' i) 32) ≤ v then k (u, v, nI i + 1) else k (nI i, nI (fb_ct (p' i) 32), nI i + 1)) = some r ∧ (if nI (fb_ct (p' i) 32) ≤ v then fX10_keeps_L107 k' c v (nI i) (nI (fb_ct (p' i) 32)) u M1 else fX10_keeps_L107 k' c v (nI i) (nI (fb_ct (p' i) 32)) (nI i) M1) = some r' ∧ EqQ r r' := by
              unfold fX10_keeps_L107
              by_cases g : nI (fb_ct (p' i) 32) ≤ v
              · simp only [if_pos g, nI_1]; exact hk _ _ ⟨_, _, rfl, rfl⟩
              · simp only [if_neg g, nI_1]; exact hk _ _ ⟨_, _, rfl, rfl⟩
            obtain ⟨w, w', f1, f2, f3⟩ := L107
            refine ⟨w, w', f1, ?_, f3⟩
            rw [← f2]
            have hl := lp_up (body := fX10_keeps_L58 k' c u v (nI i) M1) 32 (fun j z => z = (nI (fb_ct (p' i) j), nI j)) (fun z => z = w') (by
              rintro kk z rfl
              unfold fX10_keeps_L58
              dsimp only
              rw [if_pos (by decide)]
              exact ⟨w', f2, rfl⟩) (by
              rintro kk j z hj rfl hkk
              unfold fX10_keeps_L58
              dsimp only
              rw [if_neg (show ¬ (32 : Int32) ≤ nI j from nI_ge (b := 32) hj (by decide)), if_pos (ib_mk hj (by decide))]
              simp only [nI_clamp (show j < 2 ^ 31 by omega), e3 j hj]
              have hL := runS_lt (hl := noH) (w := wOf X M h r) (a := 0) (s := (j, l)) hj l1 n
              have a0 : nI (fb_ct (p' i) j) + 0 = nI (fb_ct (p' i) j) := Int32.add_zero _
              rw [a0, nI_1, nI_1]
              cases hb : bt (M 1 0) j with
              | true =>
                rw [if_pos rfl, if_neg (n_m1' (by omega))]
                refine hkk _ ?_
                rw [fb_step, pT i j hb]; rfl
              | false =>
                simp only [Bool.false_eq_true, if_false]
                by_cases e : (runS noH (wOf X M h r) 0 n (j, l)).1 = i
                · rw [if_pos (by rw [e])]
                  refine hkk _ ?_
                  rw [fb_step, pE i j hb e]; rfl
                · rw [if_neg (nI_neq i (by omega) (by omega) e)]
                  refine hkk _ ?_
                  rw [fb_step, pN i j e]; rfl) h_FU 0 (0, 0) (by omega) rfl (by unfold h_FU; omega)
            obtain ⟨y, y1, y2⟩ := hl
            rw [y1, y2, f2]
        have L60 : ∀ X2 : hMem, kP X1 X2 → (∀ d, d < 32 → X2 55 d = 0) → ∃ X3, h_lp (fX9_keeps_L60 (nI n) c) h_FU (0, X2) = h_lp (fX9_keeps_L127 c X3) h_FU (-1, 0, 0) ∧ kP X1 X3 ∧ ∀ d, d < 32 → X3 55 d = nI (fb_ct (p' d) 32) := by
          intro X2 k2 ht
          have key : ∀ (m i : Nat) (Y : hMem), i ≤ 32 → 32 - i < m → kP X1 Y → (∀ d, d < 32 → Y 55 d = nI (fb_ct (p' d) i)) → ∃ X3, h_lp (fX9_keeps_L60 (nI n) c) m (nI i, Y) = h_lp (fX9_keeps_L127 c X3) h_FU (-1, 0, 0) ∧ kP X1 X3 ∧ ∀ d, d < 32 → X3 55 d = nI (fb_ct (p' d) 32) := by
            intro m
            induction m with
            | zero => intro i Y _ h0; exact absurd h0 (Nat.not_lt_zero _)
            | succ m ih =>
              intro i Y hi hm kY hY
              rw [lp_s]
              generalize hg : h_lp (fX9_keeps_L60 (nI n) c) m = kk at *
              unfold fX9_keeps_L60
              dsimp only
              rcases Nat.lt_or_ge i 32 with hlt | hge
              · rw [if_neg (show ¬ (32 : Int32) ≤ nI i from nI_ge (b := 32) hlt (by decide)), xe_op hlt, b10, kY 2 (by omega) (by omega), x4 2 (by omega), hW, kY 40 (by omega) (by omega), x3, x_lieS q1 l1, x_stOf, nI_1]
                cases hb : bt (M 1 0) i with
                | true =>
                  rw [if_pos rfl]
                  refine ih (i + 1) Y (by omega) (by omega) kY (fun d hd => ?_)
                  rw [fb_step, pT d i hb]; exact hY d hd
                | false =>
                  rw [if_neg (by decide)]
                  obtain ⟨Y2, f1, f2⟩ := x_later ok (x2.kP kY) (a := 0) (b := n) (s := (i, l)) (by omega) (by omega) hlt l1
                  rw [show fX8_later (nI (32 * l + i)) 0 (nI n) Y = _ from f1, Option.bind_some]
                  dsimp only
                  have hL := runS_lt (hl := noH) (w := wOf X M h r) (a := 0) (s := (i, l)) hlt l1 n
                  rw [Nat.sub_zero, x_sqS hL.1 hL.2, if_pos (ib_mk (by omega) (by decide)), if_pos (ib_mk (by omega) (by decide)), nI_clamp (by omega)]
                  have k3 := kY.tr f2.P
                  refine ih (i + 1) _ (by omega) (by omega) (k3.tr (fun a h1 _ => m_row (by omega))) (fun d hd => ?_)
                  rw [m_own, f2 55 (by omega) (by omega), hY _ hL.1, nI_1]
                  by_cases e : (runS noH (wOf X M h r) 0 n (i, l)).1 = d
                  · rw [e, u_s, fb_step, pE d i hb e]; rfl
                  · rw [u_n (fun hh => e hh.symm), hY d hd, fb_step, pN d i e]; rfl
              · have h32 : i = 32 := by omega
                subst h32
                rw [if_pos (by decide)]
                exact ⟨Y, rfl, kY, hY⟩
          exact key h_FU 0 X2 (by omega) (by unfold h_FU; omega) k2 (fun d hd => by rw [ht d hd]; rfl)
        have L36 : ∃ X3, h_lp (fX9_keeps_L36 (nI n) c) h_FU (0, X1) = h_lp (fX9_keeps_L127 c X3) h_FU (-1, 0, 0) ∧ kP X1 X3 ∧ ∀ d, d < 32 → X3 55 d = nI (fb_ct (p' d) 32) := by
          have key : ∀ (m i : Nat) (Y : hMem), i ≤ 32 → 32 - i < m → kP X1 Y → (∀ d, d < i → Y 55 d = 0) → ∃ X3, h_lp (fX9_keeps_L36 (nI n) c) m (nI i, Y) = h_lp (fX9_keeps_L127 c X3) h_FU (-1, 0, 0) ∧ kP X1 X3 ∧ ∀ d, d < 32 → X3 55 d = nI (fb_ct (p' d) 32) := by
            intro m
            induction m with
            | zero => intro i Y _ h0; exact absurd h0 (Nat.not_lt_zero _)
            | succ m ih =>
              intro i Y hi hm kY hY
              rw [lp_s]
              generalize hg : h_lp (fX9_keeps_L36 (nI n) c) m = kk at *
              unfold fX9_keeps_L36
              dsimp only
              rcases Nat.lt_or_ge i 32 with hlt | hge
              · rw [if_neg (show ¬ (32 : Int32) ≤ nI i from nI_ge (b := 32) hlt (by decide)), if_pos (ib_mk (by omega) (by decide)), nI_clamp (by omega), nI_1]
                refine ih (i + 1) _ (by omega) (by omega) (kY.tr (fun a h1 _ => m_row (by omega))) (fun d hd => ?_)
                rw [m_own]
                by_cases e : d = i
                · rw [e, u_s]
                · rw [u_n e]; exact hY d (by omega)
              · have h32 : i = 32 := by omega
                subst h32
                rw [if_pos (by decide)]
                exact L60 Y kY hY
          exact key h_FU 0 X1 (by omega) (by unfold h_FU; omega) (kP.rf X1) (fun d hd => absurd hd (Nat.not_lt_zero _))
        obtain ⟨X3, f1, f2, f3⟩ := L36
        rw [f1]
        exact L127 X3 f2 f3
      · simp only [if_pos ha, if_pos hb, if_neg hc]; exact EqC.now R
    · simp only [if_pos ha, if_neg hb]; exact EqC.now R
  · simp only [if_neg ha]; exact EqC.now R
/-! day by day -/
def dayS (w : hWd) (s : Nat × Nat) : Nat → Nat × Nat
  | 0 => s
  | n + 1 => runS noH w 0 24 (dayS w s n)
theorem dayS_lt {w : hWd} {s : Nat × Nat} (h1 : s.1 < 32) (h2 : s.2 < 3) : ∀ n, (dayS w s n).1 < 32 ∧ (dayS w s n).2 < 3
  | 0 => ⟨h1, h2⟩
  | n + 1 => runS_lt (dayS_lt h1 h2 n).1 (dayS_lt h1 h2 n).2 24
/-- what is told of a state on days 0 .. d - 1 -/
def dayV (w : hWd) (s : Nat × Nat) (d : Nat) (z : Nat × Nat) (v : Int32) : Prop := (∃ j, j < d ∧ dayS w s j = z ∧ v = nI j) ∨ ((∀ j, j < d → dayS w s j ≠ z) ∧ v = -1)
theorem st_inj {s z : Nat × Nat} (h1 : s.1 < 32) (h2 : z.1 < 32) (h : stN s = stN z) : s = z := by
  have : 32 * s.2 + s.1 = 32 * z.2 + z.1 := h
  exact Prod.ext (by omega) (by omega)
theorem eq_round {X M : hMem} (R : RR X M) (a c : Int32) : EqC (fX9_round a c X) (fX10_round a c M) := by
  obtain ⟨H, hH, hx, hm⟩ := R.hats
  unfold fX9_round fX10_round
  rw [xe_hat hx (by omega), me_hat hm (by omega), b01, b01, xe_01, me_in1, b01, b01]
  by_cases ha : h_ib a H
  · by_cases hc : h_ib c 2
    · simp only [if_pos ha, if_pos hc]
      obtain ⟨h, h1, h2, rfl⟩ := ib_ex ha
      obtain ⟨r, q, l, X1, r1, q1, l1, ok, mm, q2, l2, x1, x2, x3, x4, -, -⟩ := R.ctx hH h1
      rw [x1, Option.bind_some]
      have hD := fun n => dayS_lt (w := wOf X M h r) (s := (q, l)) q1 l1 n
      have main : ∀ (X2 M2 : hMem), kP X1 X2 → kQ M M2 → (∀ k, k < 96 → X2 55 k = -1) → (∀ k, k < 96 → M2 21 k = -1) → EqC (h_lp (fX9_round_L58 c) h_FU (X2 40 5, 0, X2)) ((fX10_begins (nI h) M2).bind fun q46 => h_lp (fX10_round_L51 (nI h) c) h_FU (0, q46)) := by
        intro X2 M2 kx km tx tm
        rw [m_begins mm.1, Option.bind_some, km.1 6 (by omega), km.1 7 (by omega), q2, l2, kx 40 (by omega) (by omega), x3]
        have kb : kQ M (h_up (h_up M2 0 36 (nI q)) 0 37 (nI l)) := km.tr (kS_b M2 _ _).Q
        refine EqC.of (lp20 (body := fX9_round_L58 c) (body' := fX10_round_L51 (nI h) c) 96 (fun d s s' => ∃ Y N : hMem, s = (nI (stN (dayS (wOf X M h r) (q, l) d)), nI d, Y) ∧ s' = (nI d, N) ∧ kP X1 Y ∧ kQ M N ∧ N 0 36 = nI (dayS (wOf X M h r) (q, l) d).1 ∧ N 0 37 = nI (dayS (wOf X M h r) (q, l) d).2 ∧ (∀ z : Nat × Nat, z.1 < 32 → z.2 < 3 → dayV (wOf X M h r) (q, l) d z (Y 55 (stN z)) ∧ N 21 (3 * z.1 + z.2) = Y 55 (stN z)) ∧ (∀ i j, i < j → j < d → dayS (wOf X M h r) (q, l) i ≠ dayS (wOf X M h r) (q, l) j)) EqQ _ _ ⟨X2, _, rfl, rfl, kx, kb, by rw [m_own, u_n (by omega), m_own, u_s]; rfl, by rw [m_own, u_s]; rfl, fun z z1 z2 => ?_, fun i j _ h => absurd h (Nat.not_lt_zero _)⟩ (by decide) ?_ ?_)
        · have e1 : X2 55 (stN z) = -1 := tx _ (by show 32 * z.2 + z.1 < 96; omega)
          refine ⟨Or.inr ⟨fun j h => absurd h (Nat.not_lt_zero _), e1⟩, ?_⟩
          rw [m_row (by omega), m_row (by omega), e1]
          exact tm _ (by omega)
        · rintro k k' s s' ⟨Y, N, rfl, rfl, kY, kN, n1, n2, hv, hd⟩
          have hL := hD 96
          have R' := R.keep (kP.X x4 kY) kN.keep
          unfold fX9_round_L58 fX10_round_L51 fX9_round_L100
          dsimp only
          obtain ⟨v1, v2⟩ := hv _ hL.1 hL.2
          have e5 : (3 : Int32) * N 0 36 + N 0 37 = nI (3 * (dayS (wOf X M h r) (q, l) 96).1 + (dayS (wOf X M h r) (q, l) 96).2) := by
            rw [n1, n2, show (3 : Int32) = nI 3 from rfl, pk_mul, nI_add]
          rw [e5]
          have b96 : 3 * (dayS (wOf X M h r) (q, l) 96).1 + (dayS (wOf X M h r) (q, l) 96).2 < 96 := by omega
          have s96 : stN (dayS (wOf X M h r) (q, l) 96) < 96 := by show 32 * _ + _ < 96; omega
          rw [if_pos (ib_mk b96 (by decide)), if_neg (by decide), if_pos (ib_mk s96 (by decide))]
          simp only [nI_clamp (show 3 * (dayS (wOf X M h r) (q, l) 96).1 + (dayS (wOf X M h r) (q, l) 96).2 < 2 ^ 31 by omega), nI_clamp (show stN (dayS (wOf X M h r) (q, l) 96) < 2 ^ 31 by omega), v2]
          rcases v1 with ⟨j, j1, j2, j3⟩ | ⟨j1, j3⟩
          · rw [j3, if_pos (nI_pos' (by omega)), if_neg (n_m1 (by omega))]
            by_cases ec : c = 0
            · rw [if_pos ec, if_pos ec]; exact ⟨_, _, rfl, rfl, rfl, R'⟩
            · rw [if_neg ec, if_neg ec, if_pos (ib_mk s96 (by decide)), if_pos (ib_mk b96 (by decide))]; exact ⟨_, _, rfl, rfl, rfl, R'⟩
          · exfalso
            have := fb_holes 96 97 (fun j => stN (dayS (wOf X M h r) (q, l) j)) (fun i _ => by show 32 * _ + _ < 96; have := hD i; omega) (fun i j hij hj he => by
              have e := st_inj (hD i).1 (hD j).1 he
              rcases (by omega : j < 96 ∨ j = 96) with g | g
              · exact hd i j hij g e
              · subst g; exact j1 i hij e)
            omega
        · rintro k k' d s s' hdd ⟨Y, N, rfl, rfl, kY, kN, n1, n2, hv, hd⟩ hk
          have hL := hD d
          have R' := R.keep (kP.X x4 kY) kN.keep
          unfold fX9_round_L58 fX10_round_L51 fX9_round_L100
          dsimp only
          obtain ⟨v1, v2⟩ := hv _ hL.1 hL.2
          have e5 : (3 : Int32) * N 0 36 + N 0 37 = nI (3 * (dayS (wOf X M h r) (q, l) d).1 + (dayS (wOf X M h r) (q, l) d).2) := by
            rw [n1, n2, show (3 : Int32) = nI 3 from rfl, pk_mul, nI_add]
          rw [e5]
          have b96 : 3 * (dayS (wOf X M h r) (q, l) d).1 + (dayS (wOf X M h r) (q, l) d).2 < 96 := by omega
          have s96 : stN (dayS (wOf X M h r) (q, l) d) < 96 := by show 32 * _ + _ < 96; omega
          rw [if_pos (ib_mk b96 (by decide)), if_neg (show ¬ (96 : Int32) < nI d from nI_nlt (b := d) (a := 96) (by omega) (by decide)), if_pos (ib_mk s96 (by decide))]
          simp only [nI_clamp (show 3 * (dayS (wOf X M h r) (q, l) d).1 + (dayS (wOf X M h r) (q, l) d).2 < 2 ^ 31 by omega), nI_clamp (show stN (dayS (wOf X M h r) (q, l) d) < 2 ^ 31 by omega), v2]
          rcases v1 with ⟨j, j1, j2, j3⟩ | ⟨j1, j3⟩
          · rw [j3, if_pos (nI_pos' (by omega)), if_neg (n_m1 (by omega))]
            by_cases ec : c = 0
            · rw [if_pos ec, if_pos ec]; exact ⟨_, _, rfl, rfl, rfl, R'⟩
            · rw [if_neg ec, if_neg ec, if_pos (ib_mk s96 (by decide)), if_pos (ib_mk b96 (by decide))]; exact ⟨_, _, rfl, rfl, rfl, R'⟩
          · rw [j3, if_neg (by decide), if_pos rfl, if_pos (ib_mk s96 (by decide)), if_pos (ib_mk b96 (by decide))]
            have k1 : kP X1 (h_up Y 55 (stN (dayS (wOf X M h r) (q, l) d)) (nI d)) := kY.tr (fun a h1 _ => m_row (by omega))
            have k2 : kQ M (h_up N 21 (3 * (dayS (wOf X M h r) (q, l) d).1 + (dayS (wOf X M h r) (q, l) d).2) (nI d)) := kN.tr ⟨fun a h1 => m_row (by omega), fun j _ _ => by rw [m_row (by omega)]⟩
            obtain ⟨Y2, f1, f2⟩ := x_later ok (x2.kP k1) (a := 0) (b := 24) (s := dayS (wOf X M h r) (q, l) d) (by omega) (by omega) hL.1 hL.2
            obtain ⟨N2, g1, g2, g3, g4⟩ := m_goesOn ok (mm.kQ k2) (n := 24) (q := (dayS (wOf X M h r) (q, l) d).1) (l := (dayS (wOf X M h r) (q, l) d).2) (by omega) hL.1 hL.2 (by rw [m_row (by omega)]; exact n1) (by rw [m_row (by omega)]; exact n2)
            rw [show fX8_later (nI (stN (dayS (wOf X M h r) (q, l) d))) 0 24 _ = _ from f1, show fX10_goesOn (nI h) 24 _ = _ from g1, Option.bind_some, Option.bind_some]
            rw [hld_no R k2] at g3 g4
            dsimp only
            rw [nI_1]
            refine hk _ _ ⟨Y2, N2, rfl, rfl, k1.tr f2.P, k2.tr g2.Q, g3, g4, fun z z1 z2 => ?_, fun i j hij hj => ?_⟩
            · obtain ⟨u1, u2⟩ := hv z z1 z2
              rw [f2 55 (by omega) (by omega), g2.1 21 (by omega) (by omega) (by omega), m_own, m_own]
              by_cases e : dayS (wOf X M h r) (q, l) d = z
              · rw [e, u_s, u_s]
                exact ⟨Or.inl ⟨d, by omega, e, rfl⟩, rfl⟩
              · rw [u_n (fun hh => e (st_inj hL.1 z1 hh.symm)), u_n (fun hh => e (Prod.ext (by omega) (by omega))), u2]
                refine ⟨?_, rfl⟩
                rcases u1 with ⟨j, w1, w2, w3⟩ | ⟨w1, w3⟩
                · exact Or.inl ⟨j, by omega, w2, w3⟩
                · exact Or.inr ⟨fun j hj => by
                    rcases (by omega : j < d ∨ j = d) with g | g
                    · exact w1 j g
                    · rw [g]; exact e, w3⟩
            · rcases (by omega : j < d ∨ j = d) with g | g
              · exact hd i j hij g
              · rw [g]; exact j1 i (by omega)
      have ini : ∀ (m i : Nat) (Y N : hMem), i ≤ 96 → 96 - i < m → kP X1 Y → kQ M N → (∀ k, k < i → Y 55 k = -1) → (∀ k, k < i → N 21 k = -1) → EqC (h_lp (fX9_round_L28 c) m (nI i, Y)) (h_lp (fX10_round_L25 (nI h) c) m (nI i, N)) := by
        intro m
        induction m with
        | zero => intro i Y N _ h0; exact absurd h0 (Nat.not_lt_zero _)
        | succ m ih =>
          intro i Y N hi hm kY kN hY hN
          rw [lp_s, lp_s]
          generalize hg : h_lp (fX9_round_L28 c) m = kk at *
          generalize hg' : h_lp (fX10_round_L25 (nI h) c) m = kk' at *
          unfold fX9_round_L28 fX10_round_L25
          dsimp only
          rcases Nat.lt_or_ge i 96 with hlt | hge
          · rw [if_neg (show ¬ (96 : Int32) ≤ nI i from nI_ge (b := 96) hlt (by decide)), if_neg (show ¬ (96 : Int32) ≤ nI i from nI_ge (b := 96) hlt (by decide)), if_pos (ib_mk hlt (by decide)), if_pos (ib_mk hlt (by decide)), nI_clamp (by omega), nI_1]
            refine ih (i + 1) _ _ (by omega) (by omega) (kY.tr (fun a h1 _ => m_row (by omega))) (kN.tr ⟨fun a h1 => m_row (by omega), fun j _ _ => by rw [m_row (by omega)]⟩) (fun d hd => ?_) (fun d hd => ?_)
            · rw [m_own]
              by_cases e : d = i
              · rw [e, u_s]
              · rw [u_n e]; exact hY d (by omega)
            · rw [m_own]
              by_cases e : d = i
              · rw [e, u_s]
              · rw [u_n e]; exact hN d (by omega)
          · have h32 : i = 96 := by omega
            subst h32
            rw [if_pos (by decide), if_pos (by decide)]
            exact main Y N kY kN hY hN
      exact ini h_FU 0 X1 M (by omega) (by unfold h_FU; omega) (kP.rf X1) (kQ.rf M) (fun k hk => absurd hk (Nat.not_lt_zero _)) (fun k hk => absurd hk (Nat.not_lt_zero _))
    · simp only [if_pos ha, if_neg hc]; exact EqC.now R
  · simp only [if_neg ha]; exact EqC.now R
end
section
/-! WHAT IS IN REACH -/
def nbB (c : Nat) (p : Nat → Bool) : Bool := (decide (c + 8 < 32) && p (c + 8)) || (decide (8 ≤ c) && p (c - 8)) || (decide (0 < c % 8) && p (c - 1)) || (decide (c % 8 < 7) && p (c + 1))
def rch (W : Int32) (c0 : Nat) : Nat → Nat → Bool
  | 0, c => decide (c = c0)
  | k + 1, c => rch W c0 k c || (nbB c (rch W c0 k) && !bt W c)
theorem rch_s (W : Int32) (c0 k c : Nat) : rch W c0 (k + 1) c = (rch W c0 k c || (nbB c (rch W c0 k) && !bt W c)) := rfl
theorem rch_mono {W : Int32} {c0 c : Nat} {k : Nat} (h : rch W c0 k c = true) : ∀ j, rch W c0 (k + j) c = true
  | 0 => h
  | j + 1 => by rw [← Nat.add_assoc, rch_s, rch_mono h j]; rfl
theorem rch_le {W : Int32} {c0 c k m : Nat} (h : rch W c0 k c = true) (hm : k ≤ m) : rch W c0 m c = true := by
  have := rch_mono h (m - k)
  rwa [show k + (m - k) = m from by omega] at this
/-- a square is reached by its neighbour, and that goes both ways -/
theorem nb_iff {c : Nat} (hc : c < 32) (p : Nat → Bool) : nbB c p = true ↔ ∃ b way, b < 32 ∧ way < 4 ∧ nbr b way = some c ∧ p b = true := by
  unfold nbB nbr
  simp only [Bool.or_eq_true, Bool.and_eq_true, decide_eq_true_eq]
  constructor
  · rintro (((⟨h1, h2⟩ | ⟨h1, h2⟩) | ⟨h1, h2⟩) | ⟨h1, h2⟩)
    · exact ⟨c + 8, 0, h1, by omega, by rw [if_pos rfl, if_pos (by omega)]; rfl, h2⟩
    · exact ⟨c - 8, 2, by omega, by omega, by rw [if_neg (by decide), if_neg (by decide), if_pos rfl, if_pos (by omega)]; congr 1; omega, h2⟩
    · exact ⟨c - 1, 1, by omega, by omega, by rw [if_neg (by decide), if_pos rfl, if_pos (by omega)]; congr 1; omega, h2⟩
    · exact ⟨c + 1, 3, by omega, by omega, by rw [if_neg (by decide), if_neg (by decide), if_neg (by decide), if_pos (by omega)]; rfl, h2⟩
  · rintro ⟨b, way, hb, hw, h, hp⟩
    rcases (by omega : way = 0 ∨ way = 1 ∨ way = 2 ∨ way = 3) with rfl | rfl | rfl | rfl
    · rw [if_pos rfl] at h
      split at h
      · cases h
        exact Or.inl (Or.inl (Or.inl ⟨by omega, by rw [show b - 8 + 8 = b from by omega]; exact hp⟩))
      · cases h
    · rw [if_neg (by decide), if_pos rfl] at h
      split at h
      · cases h
        exact Or.inl (Or.inr ⟨by omega, by rw [show b + 1 - 1 = b from by omega]; exact hp⟩)
      · cases h
    · rw [if_neg (by decide), if_neg (by decide), if_pos rfl] at h
      split at h
      · cases h
        exact Or.inl (Or.inl (Or.inr ⟨by omega, by rw [show b + 8 - 8 = b from by omega]; exact hp⟩))
      · cases h
    · rw [if_neg (by decide), if_neg (by decide), if_neg (by decide)] at h
      split at h
      · cases h
        exact Or.inr ⟨by omega, by rw [show b - 1 + 1 = b from by omega]; exact hp⟩
      · cases h
theorem bes_iff {W : Int32} {b way c : Nat} : besS W b way = some c ↔ nbr b way = some c ∧ bt W c = false := by
  unfold besS
  cases e : nbr b way with
  | none => simp
  | some d =>
    simp only []
    by_cases hb : bt W d = true
    · rw [if_pos hb]
      constructor
      · intro h; cases h
      · rintro ⟨h1, h2⟩; cases h1; rw [hb] at h2; cases h2
    · rw [if_neg hb]
      constructor
      · intro h; cases h; exact ⟨rfl, eq_false_of_ne_true hb⟩
      · rintro ⟨h1, h2⟩; exact h1
/-- first reached behind d -/
def fstA (W : Int32) (c0 d c : Nat) : Prop := rch W c0 d c = true ∧ ∀ k, k < d → rch W c0 k c = false
theorem fstA_one {W : Int32} {c0 d d' c : Nat} (h : fstA W c0 d c) (h' : fstA W c0 d' c) : d = d' := by
  rcases (by omega : d < d' ∨ d = d' ∨ d' < d) with g | g | g
  · exact absurd (h.1.symm.trans (h'.2 d g)) (by decide)
  · exact g
  · exact absurd (h'.1.symm.trans (h.2 d' g)) (by decide)
theorem fstA_pred {W : Int32} {c0 d c : Nat} (hc : c < 32) (h : fstA W c0 (d + 1) c) : ∃ b way, b < 32 ∧ way < 4 ∧ fstA W c0 d b ∧ besS W b way = some c := by
  obtain ⟨h1, h2⟩ := h
  rw [rch_s, h2 d (by omega), Bool.false_or, Bool.and_eq_true] at h1
  obtain ⟨b, way, hb, hw, hn, hr⟩ := (nb_iff hc _).mp h1.1
  have hW : bt W c = false := by cases hh : bt W c with | true => rw [hh] at h1; exact absurd h1.2 (by decide) | false => rfl
  refine ⟨b, way, hb, hw, ⟨hr, fun k hk => ?_⟩, bes_iff.mpr ⟨hn, hW⟩⟩
  cases hk2 : rch W c0 k b with
  | false => rfl
  | true =>
    exfalso
    have : rch W c0 (k + 1) c = true := by
      rw [rch_s, (nb_iff hc _).mpr ⟨b, way, hb, hw, hn, hk2⟩, hW]
      simp
    rw [h2 (k + 1) (by omega)] at this
    cases this
theorem fstA_all {W : Int32} {c0 : Nat} : ∀ {d c : Nat}, c < 32 → fstA W c0 d c → ∀ j, j ≤ d → ∃ b, b < 32 ∧ fstA W c0 j b
  | 0, c, hc, h, j, hj => ⟨c, hc, by rw [show j = 0 from by omega]; exact h⟩
  | d + 1, c, hc, h, j, hj => by
    rcases (by omega : j = d + 1 ∨ j ≤ d) with g | g
    · exact ⟨c, hc, by rw [g]; exact h⟩
    · obtain ⟨b, way, hb, hw, h1, -⟩ := fstA_pred hc h
      exact fstA_all hb h1 j g
theorem fstA_le {W : Int32} {c0 d c : Nat} (hc : c < 32) (h : fstA W c0 d c) : d ≤ 31 := by
  have hall := fstA_all hc h
  have hf : ∀ j, ∃ b, j ≤ d → b < 32 ∧ fstA W c0 j b := fun j => by
    by_cases hj : j ≤ d
    · obtain ⟨b, h1⟩ := hall j hj; exact ⟨b, fun _ => h1⟩
    · exact ⟨0, fun hh => absurd hh hj⟩
  have := fb_holes 32 (d + 1) (fun j => Classical.choose (hf j)) (fun i hi => (Classical.choose_spec (hf i) (by omega)).1) (fun i j hij hj he => by
    have a1 := (Classical.choose_spec (hf i) (by omega)).2
    have a2 := (Classical.choose_spec (hf j) (by omega)).2
    rw [he] at a1
    have := fstA_one a1 a2
    omega)
  omega
theorem rch_fst {W : Int32} {c0 c : Nat} : ∀ {k : Nat}, rch W c0 k c = true → ∃ d, d ≤ k ∧ fstA W c0 d c
  | 0, h => ⟨0, Nat.le_refl _, h, fun k hk => absurd hk (Nat.not_lt_zero _)⟩
  | k + 1, h => by
    cases hk : rch W c0 k c with
    | true => obtain ⟨d, d1, d2⟩ := rch_fst hk; exact ⟨d, by omega, d2⟩
    | false => exact ⟨k + 1, Nat.le_refl _, h, fun j hj => by
        cases hj2 : rch W c0 j c with
        | false => rfl
        | true => rw [rch_le hj2 (by omega)] at hk; cases hk⟩
/-! x's reach -/
theorem edges : ∀ i, i < 32 → bt 2139062143 i = decide (i % 8 < 7) ∧ bt (-16843010) i = decide (0 < i % 8) := by decide +kernel
theorem x_grow {W S : Int32} {c0 k : Nat} (hS : ∀ c, c < 32 → bt S c = rch W c0 k c) : ∀ c, c < 32 → bt (S ||| (((((h_ushr S 8) ||| (S <<< (8 &&& 31))) ||| ((S &&& 2139062143) <<< (1 &&& 31))) ||| (h_ushr (S &&& (-16843010)) 1)) &&& (W ^^^ (-1)))) c = rch W c0 (k + 1) c := by
  intro c hc
  rw [rch_s, b_or, b_and, b_xor, b_m1 c hc, b_or, b_or, b_or, show bt (h_ushr S 8) c = bt S (8 + c) from b_ushr 8 (by decide) S c, show bt (S <<< ((8 : Int32) &&& 31)) c = _ from b_shl 8 (by decide) S hc, show bt ((S &&& 2139062143) <<< ((1 : Int32) &&& 31)) c = _ from b_shl 1 (by decide) _ hc, show bt (h_ushr (S &&& (-16843010)) 1) c = _ from b_ushr 1 (by decide) _ c, hS c hc, Bool.xor_true]
  congr 2
  unfold nbB
  congr 1
  · congr 1
    · congr 1
      · by_cases h : c + 8 < 32
        · rw [decide_eq_true h, Bool.true_and, Nat.add_comm 8 c, hS _ h]
        · rw [decide_eq_false h, Bool.false_and, b_big (by omega)]
      · by_cases h : 8 ≤ c
        · rw [hS _ (by omega)]
        · rw [decide_eq_false h, Bool.false_and, Bool.false_and]
    · by_cases h : 1 ≤ c
      · rw [decide_eq_true h, Bool.true_and, b_and, (edges (c - 1) (by omega)).1, hS _ (by omega)]
        by_cases g : 0 < c % 8
        · rw [decide_eq_true g, decide_eq_true (by omega), Bool.true_and, Bool.and_true]
        · rw [decide_eq_false g, decide_eq_false (by omega), Bool.false_and, Bool.and_false]
      · rw [decide_eq_false h, Bool.false_and, decide_eq_false (by omega), Bool.false_and]
  · rw [b_and, Nat.add_comm 1 c]
    by_cases g : c % 8 < 7
    · rw [decide_eq_true g, Bool.true_and, (edges (c + 1) (by omega)).2, decide_eq_true (by omega), Bool.and_true, hS _ (by omega)]
    · rw [decide_eq_false g, Bool.false_and]
      by_cases h : c + 1 < 32
      · rw [(edges (c + 1) h).2, decide_eq_false (by omega), Bool.and_false]
      · rw [b_big (by omega), Bool.false_and]
theorem x_spread {X : hMem} {W S : Int32} {c0 j k : Nat} (hW : X 40 0 = W) (hS : ∀ c, c < 32 → bt S c = rch W c0 j c) (hk : k ≤ 10) : ∃ S', fX8_spread S (nI k) X = some S' ∧ ∀ c, c < 32 → bt S' c = rch W c0 (j + k) c := by
  unfold fX8_spread
  obtain ⟨r, g1, g2⟩ := lp_u0 (body := fX8_spread_L5 (nI k) X) k (fun i z => ∃ V, z = (V, nI i) ∧ ∀ c, c < 32 → bt V c = rch W c0 (j + i) c) (fun r => ∀ c, c < 32 → bt r c = rch W c0 (j + k) c) (S, 0) ⟨S, rfl, hS⟩ (by omega) (by
    rintro kk z ⟨V, rfl, hV⟩
    unfold fX8_spread_L5
    dsimp only
    rw [if_pos (nI_le (Nat.le_refl _) (by omega))]
    exact ⟨_, rfl, hV⟩) (by
    rintro kk i z hi ⟨V, rfl, hV⟩ hkk
    unfold fX8_spread_L5
    dsimp only
    rw [if_neg (nI_ge hi (by omega)), nI_1, hW]
    exact hkk _ ⟨_, rfl, x_grow hV⟩)
  exact ⟨r, g1, g2⟩
/-- had: the first second from m on -/
def hadS (W : Int32) (c0 m pace reach : Nat) (sq : Nat → Nat) : Option Nat := frst (fun n => rch W c0 (reach + pace * (n - m)) (sq n)) (25 - m) m
theorem x_had {X : hMem} {W : Int32} {a : Nat} {s : Nat → Nat × Nat} (hW : X 40 0 = W) (ha : isPath a) (hp : ∀ n, n ≤ 24 → X a n = nI (stN (s n)) ∧ (s n).1 < 32 ∧ (s n).2 < 3) {c0 m pace reach : Nat} (hc : c0 < 32) (hm : m ≤ 25) (hpa : pace ≤ 4) (hre : reach ≤ 3) : fX8_had a (nI c0) (nI m) (nI pace) (nI reach) X = some (ansI (hadS W c0 m pace reach (fun n => (s n).1))) := by
  unfold fX8_had
  have hB : h_isB hYx a 10 25 = true := by
    unfold isPath at ha
    rcases (by omega : a = 47 ∨ a = 51 ∨ a = 52 ∨ a = 53 ∨ a = 54) with rfl | rfl | rfl | rfl | rfl <;> rfl
  rw [if_pos hB]
  obtain ⟨S', e1, e2⟩ := x_spread (S := 1 <<< (nI c0 &&& 31)) (c0 := c0) (j := 0) (k := reach) hW (fun c hcc => b_pow hc hcc) (by omega)
  rw [e1, Option.bind_some]
  obtain ⟨r, g1, g2⟩ := lp_up (body := fX8_had_L14 a (nI pace) X) 25 (fun i z => ∃ V, z = (V, nI i) ∧ m ≤ i ∧ (∀ c, c < 32 → bt V c = rch W c0 (reach + pace * (i - m)) c) ∧ frst (fun n => rch W c0 (reach + pace * (n - m)) (s n).1) (25 - i) i = hadS W c0 m pace reach (fun n => (s n).1)) (fun r => r = ansI (hadS W c0 m pace reach (fun n => (s n).1))) (by
    rintro k z ⟨V, rfl, -, hV, hf⟩
    unfold fX8_had_L14
    dsimp only
    rw [if_pos (by decide)]
    exact ⟨_, rfl, by rw [← hf]; rfl⟩) (by
    rintro k i z hi ⟨V, rfl, hmi, hV, hf⟩ hk
    unfold fX8_had_L14
    dsimp only
    obtain ⟨p1, p2, p3⟩ := hp i (by omega)
    rw [if_neg (show ¬ (24 : Int32) < nI i from nI_nlt (b := i) (a := 24) (by omega) (by decide)), if_pos (ib_mk hi (by decide))]
    simp only [nI_clamp (show i < 2 ^ 31 by omega), p1]
    rw [x_sqS p2 p3, bit_u _ p2, b01, hV _ p2]
    obtain ⟨t, ht⟩ : ∃ t, 25 - i = t + 1 := ⟨24 - i, by omega⟩
    rw [ht, frst_s] at hf
    by_cases hb : rch W c0 (reach + pace * (i - m)) (s i).1 = true
    · rw [if_pos hb] at hf ⊢; exact ⟨_, rfl, by rw [← hf]; rfl⟩
    · rw [if_neg hb] at hf ⊢
      obtain ⟨V2, f1, f2⟩ := x_spread (S := V) (c0 := c0) (k := pace) hW hV (by omega)
      rw [f1, Option.bind_some, nI_1]
      refine hk _ ⟨V2, rfl, by omega, ?_, by rw [show 25 - (i + 1) = t from by omega]; exact hf⟩
      intro c hcc
      rw [f2 c hcc]
      congr 1
      rw [show i + 1 - m = (i - m) + 1 from by omega, Nat.mul_add]
      omega) h_FU m (S', nI m) hm ⟨S', rfl, Nat.le_refl _, fun c hcc => by rw [e2 c hcc, Nat.sub_self, Nat.mul_zero, Nat.zero_add, Nat.add_zero], rfl⟩ (by unfold h_FU; omega)
  rw [g1, g2]
/-! the other one's -/
/-- what row 23 holds behind n rounds -/
def farI (W : Int32) (c0 n : Nat) (v : Int32) (c : Nat) : Prop := (∃ d, d ≤ n ∧ v = nI d ∧ fstA W c0 d c) ∨ (v = -1 ∧ rch W c0 n c = false)
def kF (M M' : hMem) : Prop := ∀ a, a ≠ 23 → M' a = M a
theorem kF.rf (M : hMem) : kF M M := fun _ _ => rfl
theorem kF.tr {X Y Z : hMem} (h : kF X Y) (g : kF Y Z) : kF X Z := fun a ha => (g a ha).trans (h a ha)
theorem kF.Q {M M' : hMem} (k : kF M M') : kQ M M' := ⟨fun a h => k a (by omega), fun j _ _ => by rw [k 0 (by omega)]⟩
/-- one pass over squares and ways: those beside the front are told n + 1 -/
theorem m_pass {M : hMem} {W : Int32} (hW : M 1 0 = W) {c0 n : Nat} (hn : n < 32) (hf : ∀ c, c < 32 → farI W c0 n (M 23 c) c) (k32 : Int32 × hMem → Option hMem) : ∃ M', h_lp (fX10_spreads_L40 k32 (nI n)) h_FU (0, M) = k32 (nI (n + 1), M') ∧ kF M M' ∧ ∀ c, c < 32 → farI W c0 (n + 1) (M' 23 c) c := by
  have key : ∀ (m i : Nat) (Y : hMem), i ≤ 128 → 128 - i < m → kF M Y → (∀ c, c < 32 → (¬ M 23 c = -1 ∧ Y 23 c = M 23 c) ∨ (M 23 c = -1 ∧ ((Y 23 c = nI (n + 1) ∧ ∃ j, j < i ∧ M 23 (j / 4) = nI n ∧ besS W (j / 4) (j % 4) = some c) ∨ (Y 23 c = -1 ∧ ∀ j, j < i → M 23 (j / 4) = nI n → ¬ besS W (j / 4) (j % 4) = some c)))) → ∃ M', h_lp (fX10_spreads_L40 k32 (nI n)) m (nI i, Y) = k32 (nI (n + 1), M') ∧ kF M M' ∧ ∀ c, c < 32 → (¬ M 23 c = -1 ∧ M' 23 c = M 23 c) ∨ (M 23 c = -1 ∧ ((M' 23 c = nI (n + 1) ∧ ∃ j, j < 128 ∧ M 23 (j / 4) = nI n ∧ besS W (j / 4) (j % 4) = some c) ∨ (M' 23 c = -1 ∧ ∀ j, j < 128 → M 23 (j / 4) = nI n → ¬ besS W (j / 4) (j % 4) = some c))) := by
    intro m
    induction m with
    | zero => intro i Y _ h0; exact absurd h0 (Nat.not_lt_zero _)
    | succ m ih =>
      intro i Y hi hm kY hY
      rw [lp_s]
      generalize hg : h_lp (fX10_spreads_L40 k32 (nI n)) m = kk at *
      unfold fX10_spreads_L40
      dsimp only
      rcases Nat.lt_or_ge i 128 with hlt | hge
      · have d4 : nI i / 4 = nI (i / 4) := pk_div (d := 4) (by omega) (by decide) (by decide)
        have r4 : h_rem (nI i) 4 = nI (i % 4) := n_rem (d := 4) (by omega) (by decide) (by decide)
        have hb32 : i / 4 < 32 := by omega
        rw [if_neg (show ¬ (128 : Int32) ≤ nI i from nI_ge (b := 128) hlt (by decide)), d4, r4, if_pos (ib_mk hb32 (by decide))]
        simp only [nI_clamp (show i / 4 < 2 ^ 31 by omega)]
        have fr : Y 23 (i / 4) = nI n ↔ M 23 (i / 4) = nI n := by
          rcases hY (i / 4) hb32 with ⟨a1, a2⟩ | ⟨a1, ⟨a2, -⟩ | ⟨a2, -⟩⟩
          · rw [a2]
          · rw [a2, a1]
            exact ⟨fun h => absurd ((nI_eq (by omega) (by omega)).mp h) (by omega), fun h => absurd h (n_m1' (by omega))⟩
          · rw [a2, a1]
        -- nothing is told at i
        have none_ : (M 23 (i / 4) = nI n → ∀ c, c < 32 → besS W (i / 4) (i % 4) = some c → ¬ Y 23 c = -1) → ∃ M', kk (nI i + 1, Y) = k32 (nI (n + 1), M') ∧ kF M M' ∧ ∀ c, c < 32 → (¬ M 23 c = -1 ∧ M' 23 c = M 23 c) ∨ (M 23 c = -1 ∧ ((M' 23 c = nI (n + 1) ∧ ∃ j, j < 128 ∧ M 23 (j / 4) = nI n ∧ besS W (j / 4) (j % 4) = some c) ∨ (M' 23 c = -1 ∧ ∀ j, j < 128 → M 23 (j / 4) = nI n → ¬ besS W (j / 4) (j % 4) = some c))) := by
          intro hno
          rw [nI_1]
          refine ih (i + 1) Y hlt (by omega) kY (fun c hc => ?_)
          rcases hY c hc with a | ⟨a1, ⟨a2, j, j1, j2, j3⟩ | ⟨a2, a3⟩⟩
          · exact Or.inl a
          · exact Or.inr ⟨a1, Or.inl ⟨a2, j, by omega, j2, j3⟩⟩
          · refine Or.inr ⟨a1, Or.inr ⟨a2, fun j hj e1 e2 => ?_⟩⟩
            rcases (by omega : j < i ∨ j = i) with g | g
            · exact a3 j g e1 e2
            · subst g; exact hno e1 c hc e2 a2
        by_cases hfr : Y 23 (i / 4) = nI n
        · rw [if_pos hfr, m_bes (W := W) (by rw [kY 1 (by omega)]; exact hW) hb32 (by omega), Option.bind_some]
          unfold fX10_spreads_L73
          cases eb : besS W (i / 4) (i % 4) with
          | none =>
            simp only [if_true]
            exact none_ (fun _ c _ h => by rw [eb] at h; cases h)
          | some d =>
            have hd := besS_lt hb32 eb
            simp only []
            rw [if_neg (n_m1 (by omega)), if_pos (ib_mk hd (by decide)), if_pos (ib_mk hd (by decide))]
            simp only [nI_clamp (show d < 2 ^ 31 by omega)]
            by_cases hu : Y 23 d = -1
            · rw [if_pos hu, nI_1, nI_1]
              refine ih (i + 1) _ hlt (by omega) (kY.tr (fun a ha => m_row ha)) (fun c hc => ?_)
              rw [m_own]
              by_cases e : c = d
              · subst e
                rw [u_s]
                rcases hY c hc with ⟨a1, a2⟩ | ⟨a1, -⟩
                · rw [a2] at hu; exact absurd hu a1
                · exact Or.inr ⟨a1, Or.inl ⟨rfl, i, by omega, fr.mp hfr, eb⟩⟩
              · rw [u_n e]
                rcases hY c hc with a | ⟨a1, ⟨a2, j, j1, j2, j3⟩ | ⟨a2, a3⟩⟩
                · exact Or.inl a
                · exact Or.inr ⟨a1, Or.inl ⟨a2, j, by omega, j2, j3⟩⟩
                · refine Or.inr ⟨a1, Or.inr ⟨a2, fun j hj e1 e2 => ?_⟩⟩
                  rcases (by omega : j < i ∨ j = i) with g | g
                  · exact a3 j g e1 e2
                  · subst g; rw [eb] at e2; cases e2; exact e rfl
            · rw [if_neg hu]
              exact none_ (fun _ c _ h => by rw [eb] at h; cases h; exact hu)
        · rw [if_neg hfr]
          unfold fX10_spreads_L73
          rw [if_pos rfl]
          exact none_ (fun h => absurd (fr.mpr h) hfr)
      · have h128 : i = 128 := by omega
        subst h128
        rw [if_pos (by decide), nI_1]
        exact ⟨Y, rfl, kY, hY⟩
  obtain ⟨M', g1, g2, g3⟩ := key h_FU 0 M (by omega) (by unfold h_FU; omega) (kF.rf M) (fun c hc => by
    by_cases h : M 23 c = -1
    · exact Or.inr ⟨h, Or.inr ⟨h, fun j hj => absurd hj (Nat.not_lt_zero _)⟩⟩
    · exact Or.inl ⟨h, rfl⟩)
  refine ⟨M', g1, g2, fun c hc => ?_⟩
  rcases g3 c hc with ⟨a1, a2⟩ | ⟨a1, ⟨a2, j, j1, j2, j3⟩ | ⟨a2, a3⟩⟩
  · rw [a2]
    rcases hf c hc with ⟨d, d1, d2, d3⟩ | ⟨d1, -⟩
    · exact Or.inl ⟨d, by omega, d2, d3⟩
    · exact absurd d1 a1
  · rw [a2]
    left
    refine ⟨n + 1, Nat.le_refl _, rfl, ?_, fun k hk => ?_⟩
    · rcases hf (j / 4) (by omega) with ⟨d, d1, d2, d3⟩ | ⟨d1, -⟩
      · have : d = n := (nI_eq (by omega) (by omega)).mp (d2.symm.trans j2)
        subst this
        obtain ⟨b1, b2⟩ := bes_iff.mp j3
        rw [rch_s, (nb_iff hc _).mpr ⟨j / 4, j % 4, by omega, by omega, b1, d3.1⟩, b2]
        simp
      · rw [d1] at j2; exact absurd j2 (n_m1' (by omega))
    · rcases hf c hc with ⟨d, d1, d2, d3⟩ | ⟨-, d2⟩
      · rw [d2] at a1; exact absurd a1 (n_m1 (by omega))
      · cases hr : rch W c0 k c with
        | false => rfl
        | true => rw [rch_le hr (by omega)] at d2; cases d2
  · rw [a2]
    right
    refine ⟨rfl, ?_⟩
    cases hr : rch W c0 (n + 1) c with
    | false => rfl
    | true =>
      exfalso
      rcases hf c hc with ⟨d, d1, d2, d3⟩ | ⟨-, d2⟩
      · rw [d2] at a1; exact absurd a1 (n_m1 (by omega))
      · have hfst : fstA W c0 (n + 1) c := ⟨hr, fun k hk => by
          cases hr2 : rch W c0 k c with
          | false => rfl
          | true => rw [rch_le hr2 (by omega)] at d2; cases d2⟩
        obtain ⟨b, way, hb, hw, h1, h2⟩ := fstA_pred hc hfst
        refine a3 (4 * b + way) (by omega) ?_ ?_
        · rw [show (4 * b + way) / 4 = b from by omega]
          rcases hf b hb with ⟨d, e1, e2, e3⟩ | ⟨-, e2⟩
          · rw [e2, fstA_one e3 h1]
          · rw [h1.1] at e2; cases e2
        · rw [show (4 * b + way) / 4 = b from by omega, show (4 * b + way) % 4 = way from by omega]; exact h2
theorem m_spreads {M : hMem} {W : Int32} (hW : M 1 0 = W) {c0 : Nat} (hc : c0 < 32) : ∃ M', fX10_spreads (nI c0) M = some M' ∧ kF M M' ∧ ∀ c, c < 32 → (∃ d, d ≤ 31 ∧ M' 23 c = nI d ∧ fstA W c0 d c) ∨ (M' 23 c = -1 ∧ ∀ k, rch W c0 k c = false) := by
  unfold fX10_spreads
  have L32 : ∀ Y : hMem, kF M Y → (∀ c, c < 32 → farI W c0 0 (Y 23 c) c) → ∃ r, h_lp fX10_spreads_L32 h_FU (0, Y) = some r ∧ (kF M r ∧ ∀ c, c < 32 → farI W c0 32 (r 23 c) c) := by
    intro Y kY hY
    refine lp_u0 (body := fX10_spreads_L32) 32 (fun i z => ∃ Y : hMem, z = (nI i, Y) ∧ kF M Y ∧ ∀ c, c < 32 → farI W c0 i (Y 23 c) c) _ (0, Y) ⟨Y, rfl, kY, hY⟩ (by decide) ?_ ?_
    · rintro k z ⟨Y, rfl, kY, hY⟩
      unfold fX10_spreads_L32
      dsimp only
      rw [if_pos (by decide)]
      exact ⟨_, rfl, kY, hY⟩
    · rintro k i z hi ⟨Y, rfl, kY, hY⟩ hk
      unfold fX10_spreads_L32
      dsimp only
      rw [if_neg (show ¬ (32 : Int32) ≤ nI i from nI_ge (b := 32) hi (by decide))]
      obtain ⟨M', e1, e2, e3⟩ := m_pass (M := Y) (by rw [kY 1 (by omega)]; exact hW) hi hY k
      rw [e1]
      exact hk _ ⟨M', rfl, kY.tr e2, e3⟩
  obtain ⟨r, g1, g2, g3⟩ := lp_u0 (body := fX10_spreads_L2 (nI c0)) 32 (fun i z => ∃ Y : hMem, z = (nI i, Y) ∧ kF M Y ∧ ∀ c, c < i → farI W c0 0 (Y 23 c) c) (fun r => kF M r ∧ ∀ c, c < 32 → farI W c0 32 (r 23 c) c) (0, M) ⟨M, rfl, kF.rf M, fun c hc => absurd hc (Nat.not_lt_zero _)⟩ (by decide) (by
    rintro k z ⟨Y, rfl, kY, hY⟩
    unfold fX10_spreads_L2
    dsimp only
    rw [if_pos (by decide)]
    exact L32 Y kY hY) (by
    rintro k i z hi ⟨Y, rfl, kY, hY⟩ hk
    unfold fX10_spreads_L2
    dsimp only
    rw [if_neg (show ¬ (32 : Int32) ≤ nI i from nI_ge (b := 32) hi (by decide)), nI_1, if_pos (ib_mk hi (by decide)), if_pos (ib_mk hi (by decide)), nI_clamp (by omega)]
    by_cases e : i = c0
    · rw [if_pos (by rw [e])]
      refine hk _ ⟨_, rfl, kY.tr (fun a ha => m_row ha), fun c hcc => ?_⟩
      rw [m_own]
      by_cases g : c = i
      · rw [g, u_s]; exact Or.inl ⟨0, Nat.le_refl _, rfl, by show decide (i = c0) = true; exact decide_eq_true e, fun k hk => absurd hk (Nat.not_lt_zero _)⟩
      · rw [u_n g]; exact hY c (by omega)
    · rw [if_neg (nI_neq c0 (by omega) (by omega) e)]
      refine hk _ ⟨_, rfl, kY.tr (fun a ha => m_row ha), fun c hcc => ?_⟩
      rw [m_own]
      by_cases g : c = i
      · rw [g, u_s]; exact Or.inr ⟨rfl, by show decide (i = c0) = false; exact decide_eq_false e⟩
      · rw [u_n g]; exact hY c (by omega))
  refine ⟨r, g1, g2, fun c hcc => ?_⟩
  rcases g3 c hcc with ⟨d, d1, d2, d3⟩ | ⟨d1, d2⟩
  · exact Or.inl ⟨d, fstA_le hcc d3, d2, d3⟩
  · refine Or.inr ⟨d1, fun k => ?_⟩
    cases hr : rch W c0 k c with
    | false => rfl
    | true =>
      obtain ⟨d, e1, e2⟩ := rch_fst hr
      have := fstA_le hcc e2
      rw [rch_le e2.1 (by omega)] at d2; cases d2
end
section
/-! CATCHING -/
theorem hadS_lt {W : Int32} {c0 m pace reach : Nat} {sq : Nat → Nat} {n : Nat} (h : hadS W c0 m pace reach sq = some n) (hm : m ≤ 25) : m ≤ n ∧ n ≤ 24 := by
  have := frst_lt h
  omega
theorem m_had {w : hWd} {h : Nat} {c e : Nat → Int32} {M : hMem} (hw : okW w) (mm : MM w h c e M) (h0 : M 0 39 = 0) {q l c0 m pace reach : Nat} (hq : q < 32) (hl : l < 3) (h6 : M 6 h = nI q) (h7 : M 7 h = nI l) (hc : c0 < 32) (hm : m ≤ 24) (hp : pace ≤ 4) (hr : reach ≤ 3) : ∃ M', fX10_had (nI h) (nI c0) (nI m) (nI pace) (nI reach) M = some (ansI (hadS (w.1 0) c0 m pace reach (fun n => (runS noH w 0 n (q, l)).1)), M') ∧ kQ M M' ∧ ∀ n, hadS (w.1 0) c0 m pace reach (fun n => (runS noH w 0 n (q, l)).1) = some n → M' 0 36 = nI (runS noH w 0 n (q, l)).1 ∧ M' 0 37 = nI (runS noH w 0 n (q, l)).2 := by
  unfold fX10_had
  obtain ⟨M1, s1, s2, s3⟩ := m_spreads (M := M) (mm.2.1 0 (by omega)) hc
  have k1 := s2.Q
  have kb : kQ M (h_up (h_up M1 0 36 (nI q)) 0 37 (nI l)) := k1.tr (kS_b M1 _ _).Q
  rw [s1, Option.bind_some, m_begins mm.1, Option.bind_some, s2 6 (by omega), s2 7 (by omega), h6, h7]
  obtain ⟨M2, g1, g2, g3, g4⟩ := m_goesOn hw (mm.kQ kb) (n := m) hm hq hl (by rw [m_own, u_n (by omega), m_own, u_s]) (by rw [m_own, u_s])
  have k2 := kb.tr g2.Q
  have hno : hldM (h_up (h_up M1 0 36 (nI q)) 0 37 (nI l)) = noH := by rw [hldM_q kb]; funext t; exact hldM_0 h0 t
  rw [hno] at g3 g4
  rw [g1, Option.bind_some]
  have far : ∀ Y : hMem, kS M2 Y → ∀ c, c < 32 → (∃ d, d ≤ 31 ∧ Y 23 c = nI d ∧ fstA (w.1 0) c0 d c) ∨ (Y 23 c = -1 ∧ ∀ k, rch (w.1 0) c0 k c = false) := fun Y kY c hcc => by
    rw [kY.1 23 (by omega) (by omega) (by omega), g2.1 23 (by omega) (by omega) (by omega), m_row (by omega), m_row (by omega)]; exact s3 c hcc
  obtain ⟨r, f1, f2, f3, f4⟩ := lp_up (body := fX10_had_L19 (nI h) (nI m) (nI pace) (nI reach)) 25 (fun i z => ∃ Y : hMem, z = (nI i, Y) ∧ kS M2 Y ∧ m ≤ i ∧ (i ≤ 24 → Y 0 36 = nI (runS noH w 0 i (q, l)).1 ∧ Y 0 37 = nI (runS noH w 0 i (q, l)).2) ∧ frst (fun n => rch (w.1 0) c0 (reach + pace * (n - m)) (runS noH w 0 n (q, l)).1) (25 - i) i = hadS (w.1 0) c0 m pace reach (fun n => (runS noH w 0 n (q, l)).1)) (fun r => r.1 = ansI (hadS (w.1 0) c0 m pace reach (fun n => (runS noH w 0 n (q, l)).1)) ∧ kS M2 r.2 ∧ ∀ n, hadS (w.1 0) c0 m pace reach (fun n => (runS noH w 0 n (q, l)).1) = some n → r.2 0 36 = nI (runS noH w 0 n (q, l)).1 ∧ r.2 0 37 = nI (runS noH w 0 n (q, l)).2) (by
    rintro k z ⟨Y, rfl, kY, -, -, hf⟩
    unfold fX10_had_L19
    dsimp only
    rw [if_pos (by decide)]
    exact ⟨_, rfl, by rw [← hf]; rfl, kY, fun n hn => by rw [← hf] at hn; cases hn⟩) (by
    rintro k i z hi ⟨Y, rfl, kY, hmi, hy, hf⟩ hk
    unfold fX10_had_L19
    dsimp only
    obtain ⟨y1, y2⟩ := hy (by omega)
    have hL := runS_lt (hl := noH) (w := w) (a := 0) (s := (q, l)) hq hl i
    obtain ⟨t, ht⟩ : ∃ t, 25 - i = t + 1 := ⟨24 - i, by omega⟩
    rw [ht, frst_s] at hf
    have L64 : rch (w.1 0) c0 (reach + pace * (i - m)) (runS noH w 0 i (q, l)).1 = false → ∃ r, fX10_had_L64 k (nI h) (nI m) (nI pace) (nI reach) (nI i) Y = some r ∧ (r.1 = ansI (hadS (w.1 0) c0 m pace reach (fun n => (runS noH w 0 n (q, l)).1)) ∧ kS M2 r.2 ∧ ∀ n, hadS (w.1 0) c0 m pace reach (fun n => (runS noH w 0 n (q, l)).1) = some n → r.2 0 36 = nI (runS noH w 0 n (q, l)).1 ∧ r.2 0 37 = nI (runS noH w 0 n (q, l)).2) := by
      intro hb
      rw [if_neg (by rw [hb]; decide)] at hf
      unfold fX10_had_L64
      rw [nI_1]
      rcases Nat.lt_or_ge i 24 with hlt | hge
      · rw [if_neg (show ¬ (24 : Int32) ≤ nI i from nI_ge (b := 24) hlt (by decide))]
        obtain ⟨Y', e1, e2, e3, e4⟩ := m_seconds hw (mm.kQ (k2.tr kY.Q)) (t := i) hlt hL.1 hL.2 y1 y2
        have hno2 : hldM Y = noH := by rw [hldM_q (k2.tr kY.Q)]; funext t; exact hldM_0 h0 t
        rw [hno2, if_neg (show ¬ noH i = true from Bool.false_ne_true)] at e3 e4
        rw [e1, Option.bind_some]
        refine hk _ ⟨Y', rfl, kY.tr e2, by omega, fun _ => ⟨?_, ?_⟩, by rw [show 25 - (i + 1) = t from by omega]; exact hf⟩
        · rw [e3, runS_s, Nat.zero_add]; rfl
        · rw [e4, runS_s, Nat.zero_add]; rfl
      · rw [if_pos (show (24 : Int32) ≤ nI i from nI_le (a := 24) hge (by omega))]
        exact hk _ ⟨Y, rfl, kY, by omega, fun hh => absurd hh (by omega), by rw [show 25 - (i + 1) = t from by omega]; exact hf⟩
    rw [if_neg (show ¬ (24 : Int32) < nI i from nI_nlt (b := i) (a := 24) (by omega) (by decide))]
    simp only [y1]
    rw [if_pos (ib_mk hL.1 (by decide)), if_pos (ib_mk hL.1 (by decide))]
    simp only [nI_clamp (show (runS noH w 0 i (q, l)).1 < 2 ^ 31 by omega)]
    rcases far Y kY _ hL.1 with ⟨d, d1, d2, d3⟩ | ⟨d2, d3⟩
    · have ev : nI pace * (nI i - nI m) + nI reach = nI (pace * (i - m) + reach) := by rw [pk_sub (by omega), pk_mul, nI_add]
      have hbig : pace * (i - m) + reach < 2 ^ 31 := by
        have : pace * (i - m) ≤ 4 * 24 := Nat.mul_le_mul hp (by omega)
        omega
      rw [d2, if_neg (n_m1 (by omega)), ev]
      by_cases hb : rch (w.1 0) c0 (reach + pace * (i - m)) (runS noH w 0 i (q, l)).1 = true
      · rw [if_pos hb] at hf
        have hle : d ≤ pace * (i - m) + reach := by
          obtain ⟨d', e1, e2⟩ := rch_fst hb
          have := fstA_one e2 d3
          omega
        rw [if_neg (nI_nlt (by omega) (by omega))]
        exact ⟨_, rfl, by rw [← hf]; rfl, kY, fun n hn => by rw [← hf] at hn; cases hn; exact ⟨y1, y2⟩⟩
      · have hlt : pace * (i - m) + reach < d := by
          rcases Nat.lt_or_ge (pace * (i - m) + reach) d with g | g
          · exact g
          · exact absurd (rch_le d3.1 (by omega)) hb
        rw [if_pos (nI_lt hlt (by omega))]
        exact L64 (eq_false_of_ne_true hb)
    · rw [if_pos d2]
      exact L64 (d3 _)) h_FU m (nI m, M2) (by omega) ⟨M2, rfl, kS.rf M2, Nat.le_refl _, fun _ => ⟨g3, g4⟩, rfl⟩ (by unfold h_FU; omega)
  exact ⟨r.2, by rw [f1, ← f2], k2.tr f3.Q, f4⟩
/-- a catcher -/
theorem RR.cctx {X M : hMem} (R : RR X M) {p : Nat} (hp : p < 4) : ∃ c0 pace reach : Nat, c0 < 32 ∧ pace ≤ 4 ∧ reach ≤ 3 ∧ M 8 (3 * p) = nI c0 ∧ M 8 (3 * p + 1) = nI pace ∧ M 8 (3 * p + 2) = nI reach ∧ X (11 + p) 0 = nI c0 ∧ X (11 + p) 1 = nI pace ∧ X (11 + p) 2 = nI reach := by
  obtain ⟨e0, e1, e2, b0, b1, b2⟩ := R.catE hp
  obtain ⟨c0, c1, -, c3⟩ := ib_ex b0
  obtain ⟨pa, p1, -, p3⟩ := ib_ex b1
  obtain ⟨re, r1, -, r3⟩ := ib_ex b2
  exact ⟨c0, pa, re, c1, by omega, by omega, c3, p3, r3, e0.trans c3, e1.trans p3, e2.trans r3⟩
theorem c3a {p : Nat} (hp : p < 4) : (3 : Int32) * nI p = nI (3 * p) := pk_mul 3 p
theorem m_hadBy {w : hWd} {h : Nat} {c e : Nat → Int32} {M : hMem} (hw : okW w) (mm : MM w h c e M) (h0 : M 0 39 = 0) {q l c0 p pace reach : Nat} (hq : q < 32) (hl : l < 3) (h6 : M 6 h = nI q) (h7 : M 7 h = nI l) (hpp : p < 4) (hc : c0 < 32) (hp : pace ≤ 4) (hr : reach ≤ 3) (e0 : M 8 (3 * p) = nI c0) (e1 : M 8 (3 * p + 1) = nI pace) (e2 : M 8 (3 * p + 2) = nI reach) : ∃ M', fX10_hadBy (nI h) (nI p) M = some (ansI (hadS (w.1 0) c0 0 pace reach (fun n => (runS noH w 0 n (q, l)).1)), M') ∧ kQ M M' ∧ ∀ n, hadS (w.1 0) c0 0 pace reach (fun n => (runS noH w 0 n (q, l)).1) = some n → M' 0 36 = nI (runS noH w 0 n (q, l)).1 ∧ M' 0 37 = nI (runS noH w 0 n (q, l)).2 := by
  unfold fX10_hadBy
  rw [c3a hpp, show nI (3 * p) + 1 = nI (3 * p + 1) from nI_1 _, show nI (3 * p) + 2 = nI (3 * p + 2) from nI_add _ 2, if_pos (ib_mk (by omega) (by decide)), if_pos (ib_mk (by omega) (by decide)), if_pos (ib_mk (by omega) (by decide)), nI_clamp (by omega), nI_clamp (by omega), nI_clamp (by omega), e0, e1, e2]
  obtain ⟨M', g1, g2, g3⟩ := m_had hw mm h0 (m := 0) hq hl h6 h7 hc (by omega) hp hr
  rw [show fX10_had (nI h) (nI c0) 0 (nI pace) (nI reach) M = _ from g1, Option.bind_some]
  exact ⟨M', rfl, g2, g3⟩
theorem x_hadBy {w : hWd} {T : Nat} {X : hMem} (hw : okW w) (mx : MX w T X) {s : Nat × Nat} (h5 : X 40 5 = nI (stN s)) (h1 : s.1 < 32) (h2 : s.2 < 3) {p c0 pace reach : Nat} (hpp : p < 4) (hc : c0 < 32) (hp : pace ≤ 4) (hr : reach ≤ 3) (e0 : X (11 + p) 0 = nI c0) (e1 : X (11 + p) 1 = nI pace) (e2 : X (11 + p) 2 = nI reach) : ∃ X', fX8_hadBy (11 + p) X = some (ansI (hadS (w.1 0) c0 0 pace reach (fun n => (runS noH w 0 n s).1)), X') ∧ (∀ q, q ≠ 47 → q ≠ 48 → ¬ (59 ≤ q ∧ q < 80 ∧ q % 4 = 3) → X' q = X q) ∧ ∀ n, n ≤ 24 → X' 47 n = nI (stN (runS noH w 0 n s)) := by
  unfold fX8_hadBy
  have hB : h_isB hYx (11 + p) 0 0 = true := h_forall (N := 4) (p := fun p => h_isB hYx (11 + p) 0 0) (by decide +kernel) hpp
  obtain ⟨X', f1, f2, f3⟩ := x_follow hw mx (a := 47) (Or.inl rfl) h5 h1 h2
  rw [if_pos hB, f1, Option.bind_some, f2 (11 + p) (by omega) (by omega) (by omega), e0, e1, e2]
  have hh := x_had (X := X') (W := w.1 0) (a := 47) (s := fun n => runS noH w 0 n s) (by rw [f2 40 (by omega) (by omega) (by omega)]; exact mx.1) (Or.inl rfl) (fun n hn => ⟨f3 n hn, (runS_lt h1 h2 n).1, (runS_lt h1 h2 n).2⟩) (c0 := c0) (m := 0) hc (by omega) hp hr
  rw [show fX8_had 47 (nI c0) 0 (nI pace) (nI reach) X' = _ from hh, Option.bind_some]
  exact ⟨X', rfl, f2, f3⟩
/-- what both sides find of a hat and a catcher, as all is now -/
theorem had_now {X M : hMem} (R : RR X M) {h p H : Nat} (hH : H ≤ 4) (hh : h < H) (hp : p < 4) : ∃ (o : Option Nat) (X' M' : hMem), fX9_hadNow (nI h) (nI p) X = some (ansI o, X') ∧ fX10_hadBy (nI h) (nI p) M = some (ansI o, M') ∧ RR X' M' ∧ (∀ n, o = some n → n ≤ 24) := by
  obtain ⟨r, q, l, X1, r1, q1, l1, ok, mm, q2, l2, x1, x2, x3, x4, -, -⟩ := R.ctx hH hh
  obtain ⟨c0, pa, re, c1, p1, e1, m0, m1, m2, y0, y1, y2⟩ := R.cctx hp
  obtain ⟨X2, f1, f2, f3⟩ := x_hadBy ok x2 (s := (q, l)) x3 q1 l1 hp c1 p1 e1 (by rw [x4 _ (by omega)]; exact y0) (by rw [x4 _ (by omega)]; exact y1) (by rw [x4 _ (by omega)]; exact y2)
  obtain ⟨M2, g1, g2, g3⟩ := m_hadBy ok mm R.hold q1 l1 q2 l2 hp c1 p1 e1 m0 m1 m2
  refine ⟨_, X2, M2, ?_, g1, R.keep (kP.X x4 (fun a h1 h2 => f2 a (by omega) (by omega) h2)) g2.keep, fun n hn => (hadS_lt hn (by omega)).2⟩
  unfold fX9_hadNow
  rw [x1, Option.bind_some, if_pos (ib_mk hp (by decide)), nI_clamp (by omega), f1, Option.bind_some]
theorem eq_caught {X M : hMem} (R : RR X M) (a b : Int32) : EqC (fX9_caught a b X) (fX10_caught a b M) := by
  obtain ⟨H, hH, hx, hm⟩ := R.hats
  obtain ⟨C, hC, cx, cm⟩ := R.cats
  unfold fX9_caught fX10_caught fX10_areThere
  rw [xe_hat hx (by omega), me_hat hm (by omega), xe_cat cx (by omega), me_cat cm (by omega), b01, b01, b01, b01]
  by_cases ha : h_ib a H
  · by_cases hb : h_ib b C
    · simp only [if_pos ha, if_pos hb]
      obtain ⟨h, h1, h2, rfl⟩ := ib_ex ha
      obtain ⟨p, p1, p2, rfl⟩ := ib_ex hb
      obtain ⟨o, X', M', e1, e2, R', -⟩ := had_now R hH h1 (p := p) (by omega)
      rw [e1, e2, if_neg (by decide)]
      exact EqC.now R'
    · simp only [if_pos ha, if_neg hb, if_true]; exact EqC.now R
  · simp only [if_neg ha, if_true]; exact EqC.now R
/-! sooner -/
def soon (o f : Option Nat) : Bool := match o with | none => false | some n => (match f with | none => true | some v => decide (n < v))
def okO (o : Option Nat) : Prop := ∀ n, o = some n → n < 2 ^ 30
theorem x_sooner {o f : Option Nat} (ho : okO o) (hf : okO f) (X : hMem) : fX9_isSooner (ansI o) (ansI f) X = if soon o f = true then 1 else 0 := by
  unfold fX9_isSooner
  cases o with
  | none => rfl
  | some n =>
    have := ho n rfl
    show (if nI n < 0 then _ else _) = _
    rw [if_neg (nI_pos (by omega))]
    cases f with
    | none => rfl
    | some v =>
      have := hf v rfl
      show (if nI v < 0 then _ else if nI v ≤ nI n then _ else _) = _
      rw [if_neg (nI_pos (by omega))]
      by_cases h : n < v
      · rw [if_neg (nI_ge h (by omega)), if_pos (by exact decide_eq_true h)]
      · rw [if_pos (nI_le (by omega) (by omega)), if_neg (by show ¬ decide (n < v) = true; rw [decide_eq_false h]; decide)]
theorem m_sooner {o f : Option Nat} (ho : okO o) (hf : okO f) (X : hMem) : fX10_isSooner (ansI o) (ansI f) X = if soon o f = true then 1 else 0 := by
  unfold fX10_isSooner
  cases o with
  | none => rfl
  | some n =>
    have := ho n rfl
    show (if nI n = -1 then _ else _) = _
    rw [if_neg (n_m1 (by omega))]
    cases f with
    | none => rfl
    | some v =>
      have := hf v rfl
      show (if nI v = -1 then _ else if nI v ≤ nI n then _ else _) = _
      rw [if_neg (n_m1 (by omega))]
      by_cases h : n < v
      · rw [if_neg (nI_ge h (by omega)), if_pos (by exact decide_eq_true h)]
      · rw [if_pos (nI_le (by omega) (by omega)), if_neg (by show ¬ decide (n < v) = true; rw [decide_eq_false h]; decide)]
/-- the best so far and its number: none of both, or both -/
def okB (b : Int32) (f : Option Nat) : Prop := (f = none ∧ b = -1) ∨ (¬ f = none ∧ ¬ b = -1)
/-- the longer way to say it -/
theorem m_less {α : Type} {o f : Option Nat} (ho : okO o) (hf : okO f) {b : Int32} (hb : okB b f) (A B : α) : (if ansI o = -1 then A else if b = -1 then B else if ansI f ≤ ansI o then A else B) = if soon o f = true then B else A := by
  cases o with
  | none => rfl
  | some n =>
    have := ho n rfl
    rw [if_neg (show ¬ ansI (some n) = -1 from n_m1 (by omega))]
    cases f with
    | none =>
      rcases hb with ⟨-, h⟩ | ⟨h, -⟩
      · rw [if_pos h]; rfl
      · exact absurd rfl h
    | some v =>
      have := hf v rfl
      rcases hb with ⟨h, -⟩ | ⟨-, h⟩
      · cases h
      · rw [if_neg h]
        by_cases h : n < v
        · rw [if_neg (show ¬ ansI (some v) ≤ ansI (some n) from nI_ge h (by omega)), if_pos (by exact decide_eq_true h)]
        · rw [if_pos (show ansI (some v) ≤ ansI (some n) from nI_le (by omega) (by omega)), if_neg (by show ¬ decide (n < v) = true; rw [decide_eq_false h]; decide)]
theorem okB_new {i : Nat} (hi : i < 2 ^ 31) {o f : Option Nat} (h : soon o f = true) : okB (nI i) o := by
  cases o with
  | none => cases h
  | some n => exact Or.inr ⟨by simp, n_m1 hi⟩
theorem hadS_ok {W : Int32} {c0 m pace reach : Nat} {sq : Nat → Nat} (hm : m ≤ 25) : okO (hadS W c0 m pace reach sq) := fun n h => by have := hadS_lt h hm; omega
theorem eq_who {X M : hMem} (R : RR X M) (a c : Int32) : EqC (fX9_who a c X) (fX10_who a c M) := by
  obtain ⟨H, hH, hx, hm⟩ := R.hats
  obtain ⟨C, hC, cx, cm⟩ := R.cats
  unfold fX9_who fX10_who
  rw [xe_hat hx (by omega), me_hat hm (by omega), b01, b01, xe_01, me_in1, b01, b01]
  by_cases ha : h_ib a H
  · by_cases hc : h_ib c 2
    · simp only [if_pos ha, if_pos hc]
      obtain ⟨h, h1, h2, rfl⟩ := ib_ex ha
      obtain ⟨r, q, l, X1, r1, q1, l1, ok, mm, q2, l2, x1, x2, x3, x4, -, -⟩ := R.ctx hH h1
      obtain ⟨X2, f1, f2, f3⟩ := x_follow ok x2 (a := 47) (Or.inl rfl) x3 q1 l1
      rw [x1, Option.bind_some, f1, Option.bind_some]
      have kx : keepX X X2 := kP.X x4 (fun a h1 h2 => f2 a (by omega) (by omega) h2)
      refine EqC.of (lp20 (body := fX9_who_L48 c X2) (body' := fX10_who_L31 (nI h) c) C (fun i s s' => ∃ (b : Int32) (f : Option Nat) (N : hMem), s = (b, ansI f, nI i) ∧ s' = (b, ansI f, nI i, N) ∧ okO f ∧ okB b f ∧ kQ M N) EqQ _ _ ⟨-1, none, M, rfl, rfl, fun n h => (by cases h), Or.inl ⟨rfl, rfl⟩, kQ.rf M⟩ (by omega) ?_ ?_)
      · rintro k k' s s' ⟨b, f, N, rfl, rfl, of, ob, kN⟩
        unfold fX9_who_L48 fX10_who_L31
        dsimp only
        have R' := R.keep kx kN.keep
        simp only [f2 1 (by omega) (by omega) (by omega), x4 1 (by omega), cx, kN.2 8 (by omega) (by omega), cm]
        rw [if_pos (nI_le (Nat.le_refl _) (by omega)), if_pos (nI_le (Nat.le_refl _) (by omega))]
        by_cases ec : c = 0
        · rw [if_pos ec, if_pos ec]; exact ⟨_, _, rfl, rfl, rfl, R'⟩
        · rw [if_neg ec, if_neg ec]; exact ⟨_, _, rfl, rfl, rfl, R'⟩
      · rintro k k' i s s' hi ⟨b, f, N, rfl, rfl, of, ob, kN⟩ hk
        unfold fX9_who_L48 fX10_who_L31
        dsimp only
        simp only [f2 1 (by omega) (by omega) (by omega), x4 1 (by omega), cx, kN.2 8 (by omega) (by omega), cm]
        rw [if_neg (nI_ge hi (by omega)), if_neg (nI_ge hi (by omega)), if_pos (ib_mk (by omega) (by decide)), nI_clamp (by omega)]
        obtain ⟨c0, pa, re, c1, p1, e1, m0, m1, m2, y0, y1, y2⟩ := R.cctx (p := i) (by omega)
        have hh := x_had (X := X2) (W := M 1 0) (a := 47) (s := fun n => runS noH (wOf X M h r) 0 n (q, l)) (by rw [f2 40 (by omega) (by omega) (by omega)]; exact x2.1) (Or.inl rfl) (fun n hn => ⟨f3 n hn, (runS_lt (s := (q, l)) q1 l1 n).1, (runS_lt (s := (q, l)) q1 l1 n).2⟩) (c0 := c0) (m := 0) c1 (by omega) p1 e1
        obtain ⟨N2, g1, g2, -⟩ := m_hadBy ok (mm.kQ kN) (by rw [kN.2 39 (by omega) (by omega)]; exact R.hold) q1 l1 (by rw [kN.1 6 (by omega)]; exact q2) (by rw [kN.1 7 (by omega)]; exact l2) (p := i) (by omega) c1 p1 e1 (by rw [kN.1 8 (by omega)]; exact m0) (by rw [kN.1 8 (by omega)]; exact m1) (by rw [kN.1 8 (by omega)]; exact m2)
        rw [show (wOf X M h r).1 0 = M 1 0 from rfl] at g1
        have oo := hadS_ok (W := M 1 0) (c0 := c0) (m := 0) (pace := pa) (reach := re) (sq := fun n => (runS noH (wOf X M h r) 0 n (q, l)).1) (by omega)
        generalize hadS (M 1 0) c0 0 pa re (fun n => (runS noH (wOf X M h r) 0 n (q, l)).1) = o at oo hh g1
        rw [f2 (11 + i) (by omega) (by omega) (by omega), x4 (11 + i) (by omega), y0, y1, y2, show fX8_had 47 (nI c0) 0 (nI pa) (nI re) X2 = _ from hh, g1, Option.bind_some, Option.bind_some]
        dsimp only
        rw [x_sooner oo of, b01, m_less oo of ob]
        unfold fX10_who_L71 fX10_who_L67 fX10_who_L72 fX10_who_L85
        have kN2 := kN.tr g2
        by_cases hs : soon o f = true
        · rw [if_pos hs, if_pos hs, if_neg (by decide), if_neg (by decide), nI_1]
          exact hk _ _ ⟨_, o, N2, rfl, rfl, oo, okB_new (by omega) hs, kN2⟩
        · rw [if_neg hs, if_neg hs, if_pos rfl, if_pos rfl, nI_1]
          exact hk _ _ ⟨_, f, N2, rfl, rfl, of, ob, kN2⟩
    · simp only [if_pos ha, if_neg hc]; exact EqC.now R
  · simp only [if_neg ha]; exact EqC.now R
end
section
theorem q_le25x {α : Type} {a : Int32} {A B : α} : (if a < 0 then A else if a ≤ 24 then B else A) = if h_ib a 25 then B else A := if_le a 24 A B (by decide)
theorem pair_x {X : hMem} {H C : Nat} (hx : X 1 5 = nI H) (cx : X 1 6 = nI C) (hH : H < 2 ^ 31) (hC : C < 2 ^ 31) (a b c : Int32) : fX9_refusalOfPair a b c X = if h_ib a H then (if h_ib b C then (if h_ib c 2 then 0 else -7) else -5) else -5 := by
  unfold fX9_refusalOfPair
  rw [xe_hat hx hH, xe_cat cx hC, xe_01, b01, b01, b01]
theorem there_m {M : hMem} {H C : Nat} (hm : M 0 3 = nI H) (cm : M 0 8 = nI C) (hH : H < 2 ^ 30) (hC : C < 2 ^ 30) (a b : Int32) : fX10_areThere a b M = if h_ib a H then (if h_ib b C then 1 else 0) else 0 := by
  unfold fX10_areThere
  rw [me_hat hm hH, me_cat cm hC, b01, b01]
theorem eq_stand {X M : hMem} (R : RR X M) (a b c : Int32) : EqC (fX9_stand a b c X) (fX10_stand a b c M) := by
  obtain ⟨H, hH, hx, hm⟩ := R.hats
  obtain ⟨C, hC, cx, cm⟩ := R.cats
  unfold fX9_stand fX10_stand
  rw [pair_x hx cx (by omega) (by omega), there_m hm cm (by omega) (by omega), me_in1, b01]
  by_cases ha : h_ib a H
  · by_cases hb : h_ib b C
    · by_cases hc : h_ib c 2
      · simp only [if_pos ha, if_pos hb, if_pos hc]
        rw [if_pos trivial, if_neg (by decide)]
        obtain ⟨h, h1, h2, rfl⟩ := ib_ex ha
        obtain ⟨p, p1, p2, rfl⟩ := ib_ex hb
        obtain ⟨r, q, l, X1, r1, q1, l1, ok, mm, q2, l2, x1, x2, x3, x4, -, -⟩ := R.ctx hH h1
        obtain ⟨c0, pa, re, c1, pp1, e1, m0, m1, m2, y0, y1, y2⟩ := R.cctx (p := p) (by omega)
        obtain ⟨X2, f1, f2, f3⟩ := x_follow ok x2 (a := 47) (Or.inl rfl) x3 q1 l1
        rw [x1, Option.bind_some, f1, Option.bind_some, if_pos (ib_mk (by omega) (by decide)), nI_clamp (by omega)]
        have kx : keepX X X2 := kP.X x4 (fun a h1 h2 => f2 a (by omega) (by omega) h2)
        have hp3 : (3 : Int32) * nI p + 1 = nI (3 * p + 1) := by rw [c3a (by omega), nI_1]
        have hp4 : (3 : Int32) * nI p + 2 = nI (3 * p + 2) := by rw [c3a (by omega)]; exact nI_add _ 2
        refine EqC.of (lp20 (body := fX9_stand_L56 c (11 + p) X2) (body' := fX10_stand_L33 (nI h) (nI p) c) 32 (fun i s s' => ∃ (b : Int32) (f : Option Nat) (N : hMem), s = (b, ansI f, nI i) ∧ s' = (b, ansI f, nI i, N) ∧ okO f ∧ okB b f ∧ kQ M N) EqQ _ _ ⟨-1, none, M, rfl, rfl, fun n h => (by cases h), Or.inl ⟨rfl, rfl⟩, kQ.rf M⟩ (by omega) ?_ ?_)
        · rintro k k' s s' ⟨b, f, N, rfl, rfl, of, ob, kN⟩
          unfold fX9_stand_L56 fX10_stand_L33
          dsimp only
          have R' := R.keep kx kN.keep
          simp only [show (32 : Int32) ≤ nI 32 from by decide, if_true]
          by_cases ec : c = 0
          · rw [if_pos ec, if_pos ec]; exact ⟨_, _, rfl, rfl, rfl, R'⟩
          · rw [if_neg ec, if_neg ec]; exact ⟨_, _, rfl, rfl, rfl, R'⟩
        · rintro k k' i s s' hi ⟨b, f, N, rfl, rfl, of, ob, kN⟩ hk
          unfold fX9_stand_L56 fX10_stand_L33
          dsimp only
          rw [if_neg (show ¬ (32 : Int32) ≤ nI i from nI_ge (b := 32) hi (by decide)), if_neg (show ¬ (32 : Int32) ≤ nI i from nI_ge (b := 32) hi (by decide)), xe_op hi, b10, me_has0 hi, Option.bind_some, b01, f2 2 (by omega) (by omega) (by omega), x4 2 (by omega), R.setsE (k := 0) (by omega), kN.1 1 (by omega), nI_1]
          by_cases hw : bt (M 1 0) i = true
          · rw [if_pos hw, if_pos hw]
            exact hk _ _ ⟨b, f, N, rfl, rfl, of, ob, kN⟩
          · rw [if_neg hw, if_neg hw, f2 40 (by omega) (by omega) (by omega), x3, x_sqS q1 l1, if_pos (ib_mk (by omega) (by decide))]
            simp only [nI_clamp (show h < 2 ^ 31 by omega), kN.1 6 (by omega), q2]
            by_cases eq : i = q
            · rw [if_pos (by rw [eq]), if_pos (by rw [eq])]
              exact hk _ _ ⟨b, f, N, rfl, rfl, of, ob, kN⟩
            · rw [if_neg (nI_neq q (by omega) (by omega) eq), if_neg (nI_neq q (by omega) (by omega) eq), hp3, hp4, if_pos (ib_mk (by omega) (by decide)), if_pos (ib_mk (by omega) (by decide)), nI_clamp (by omega), nI_clamp (by omega), kN.1 8 (by omega), m1, m2]
              have hh := x_had (X := X2) (W := M 1 0) (a := 47) (s := fun n => runS noH (wOf X M h r) 0 n (q, l)) (by rw [f2 40 (by omega) (by omega) (by omega)]; exact x2.1) (Or.inl rfl) (fun n hn => ⟨f3 n hn, (runS_lt (s := (q, l)) q1 l1 n).1, (runS_lt (s := (q, l)) q1 l1 n).2⟩) (c0 := i) (m := 0) hi (by omega) pp1 e1
              obtain ⟨N2, g1, g2, -⟩ := m_had ok (mm.kQ kN) (by rw [kN.2 39 (by omega) (by omega)]; exact R.hold) (m := 0) q1 l1 (by rw [kN.1 6 (by omega)]; exact q2) (by rw [kN.1 7 (by omega)]; exact l2) (c0 := i) hi (by omega) pp1 e1
              rw [show (wOf X M h r).1 0 = M 1 0 from rfl] at g1
              have oo := hadS_ok (W := M 1 0) (c0 := i) (m := 0) (pace := pa) (reach := re) (sq := fun n => (runS noH (wOf X M h r) 0 n (q, l)).1) (by omega)
              generalize hadS (M 1 0) i 0 pa re (fun n => (runS noH (wOf X M h r) 0 n (q, l)).1) = o at oo hh g1
              rw [f2 (11 + p) (by omega) (by omega) (by omega), x4 (11 + p) (by omega), y1, y2, show fX8_had 47 (nI i) 0 (nI pa) (nI re) X2 = _ from hh, show fX10_had (nI h) (nI i) 0 (nI pa) (nI re) N = _ from g1, Option.bind_some, Option.bind_some]
              dsimp only
              rw [x_sooner oo of, b01, m_less oo of ob]
              unfold fX10_stand_L114 fX10_stand_L110 fX10_stand_L115 fX10_stand_L129
              have kN2 := kN.tr g2
              by_cases hs : soon o f = true
              · rw [if_pos hs, if_pos hs, if_neg (by decide), if_neg (by decide), nI_1]
                exact hk _ _ ⟨_, o, N2, rfl, rfl, oo, okB_new (by omega) hs, kN2⟩
              · rw [if_neg hs, if_neg hs, if_pos rfl, if_pos rfl, nI_1]
                exact hk _ _ ⟨_, f, N2, rfl, rfl, of, ob, kN2⟩
      · simp only [if_pos ha, if_pos hb, if_neg hc]
        rw [if_neg (by decide), if_neg (by decide)]; exact EqC.now R
    · simp only [if_pos ha, if_neg hb]
      rw [if_neg (by decide), if_pos trivial]; exact EqC.now R
  · simp only [if_neg ha]
    rw [if_neg (by decide), if_pos trivial]; exact EqC.now R
theorem eq_pace {X M : hMem} (R : RR X M) (a b c : Int32) : EqC (fX9_pace a b c X) (fX10_pace a b c M) := by
  obtain ⟨H, hH, hx, hm⟩ := R.hats
  obtain ⟨C, hC, cx, cm⟩ := R.cats
  unfold fX9_pace fX10_pace
  rw [xe_hat hx (by omega), xe_cat cx (by omega), there_m hm cm (by omega) (by omega), me_sec, b01, b01, b01, q_le25x]
  by_cases ha : h_ib a H
  · by_cases hb : h_ib b C
    · by_cases hc : h_ib c 25
      · simp only [if_pos ha, if_pos hb, if_pos hc]
        rw [if_neg (by decide)]
        obtain ⟨h, h1, h2, rfl⟩ := ib_ex ha
        obtain ⟨p, p1, p2, rfl⟩ := ib_ex hb
        obtain ⟨sec, s1, s2, rfl⟩ := ib_ex hc
        obtain ⟨r, q, l, X1, r1, q1, l1, ok, mm, q2, l2, x1, x2, x3, x4, -, -⟩ := R.ctx hH h1
        obtain ⟨c0, pa, re, c1, pp1, e1, m0, m1, m2, y0, y1, y2⟩ := R.cctx (p := p) (by omega)
        obtain ⟨X2, f1, f2, f3⟩ := x_follow ok x2 (a := 47) (Or.inl rfl) x3 q1 l1
        rw [x1, Option.bind_some, f1, Option.bind_some, if_pos (ib_mk (by omega) (by decide)), nI_clamp (by omega)]
        have kx : keepX X X2 := kP.X x4 (fun a h1 h2 => f2 a (by omega) (by omega) h2)
        have hp4 : (3 : Int32) * nI p + 2 = nI (3 * p + 2) := by rw [c3a (by omega)]; exact nI_add _ 2
        refine EqC.of (lp20 (body := fX9_pace_L65 (nI sec) (11 + p) X2) (body' := fX10_pace_L25 (nI h) (nI p) (nI sec)) 5 (fun i s s' => ∃ N : hMem, s = nI i ∧ s' = (nI i, N) ∧ kQ M N) EqQ _ _ ⟨M, rfl, rfl, kQ.rf M⟩ (by omega) ?_ ?_)
        · rintro k k' s s' ⟨N, rfl, rfl, kN⟩
          unfold fX9_pace_L65 fX10_pace_L25
          dsimp only
          simp only [show (4 : Int32) < nI 5 from by decide, if_true]
          exact ⟨_, _, rfl, rfl, rfl, R.keep kx kN.keep⟩
        · rintro k k' i s s' hi ⟨N, rfl, rfl, kN⟩ hk
          unfold fX9_pace_L65 fX10_pace_L25
          dsimp only
          rw [if_neg (show ¬ (4 : Int32) < nI i from nI_nlt (b := i) (a := 4) (by omega) (by decide)), if_neg (show ¬ (4 : Int32) < nI i from nI_nlt (b := i) (a := 4) (by omega) (by decide)), c3a (by omega), show nI (3 * p) + 2 = nI (3 * p + 2) from nI_add _ 2, if_pos (ib_mk (by omega) (by decide)), if_pos (ib_mk (by omega) (by decide)), nI_clamp (by omega), nI_clamp (by omega), kN.1 8 (by omega), m0, m2]
          have hh := x_had (X := X2) (W := M 1 0) (a := 47) (s := fun n => runS noH (wOf X M h r) 0 n (q, l)) (by rw [f2 40 (by omega) (by omega) (by omega)]; exact x2.1) (Or.inl rfl) (fun n hn => ⟨f3 n hn, (runS_lt (s := (q, l)) q1 l1 n).1, (runS_lt (s := (q, l)) q1 l1 n).2⟩) (c0 := c0) (m := 0) (pace := i) c1 (by omega) (by omega) e1
          obtain ⟨N2, g1, g2, -⟩ := m_had ok (mm.kQ kN) (by rw [kN.2 39 (by omega) (by omega)]; exact R.hold) (m := 0) q1 l1 (by rw [kN.1 6 (by omega)]; exact q2) (by rw [kN.1 7 (by omega)]; exact l2) (c0 := c0) (pace := i) c1 (by omega) (by omega) e1
          rw [show (wOf X M h r).1 0 = M 1 0 from rfl] at g1
          have oo := hadS_ok (W := M 1 0) (c0 := c0) (m := 0) (pace := i) (reach := re) (sq := fun n => (runS noH (wOf X M h r) 0 n (q, l)).1) (by omega)
          generalize hadS (M 1 0) c0 0 i re (fun n => (runS noH (wOf X M h r) 0 n (q, l)).1) = o at oo hh g1
          have kN2 := kN.tr g2
          have R2 := R.keep kx kN2.keep
          rw [f2 (11 + p) (by omega) (by omega) (by omega), x4 (11 + p) (by omega), y0, y2, show fX8_had 47 (nI c0) 0 (nI i) (nI re) X2 = _ from hh, show fX10_had (nI h) (nI c0) 0 (nI i) (nI re) N = _ from g1, Option.bind_some, Option.bind_some, nI_1]
          dsimp only
          cases o with
          | none =>
            rw [show ansI none = -1 from rfl, if_pos (by decide), if_pos rfl]
            exact hk _ _ ⟨N2, rfl, rfl, kN2⟩
          | some n =>
            have := oo n rfl
            rw [show ansI (some n) = nI n from rfl, if_neg (nI_pos (by omega)), if_neg (n_m1 (by omega))]
            by_cases e0 : nI sec = 0
            · rw [if_pos e0, if_pos e0]; exact ⟨_, _, rfl, rfl, rfl, R2⟩
            · rw [if_neg e0, if_neg e0]
              by_cases e2 : nI sec ≤ nI n
              · rw [if_pos e2, if_pos e2]; exact hk _ _ ⟨N2, rfl, rfl, kN2⟩
              · rw [if_neg e2, if_neg e2]; exact ⟨_, _, rfl, rfl, rfl, R2⟩
      · simp only [if_pos ha, if_pos hb, if_neg hc]
        rw [if_neg (by decide)]; exact EqC.now R
    · simp only [if_pos ha, if_neg hb]
      rw [if_pos trivial]; exact EqC.now R
  · simp only [if_neg ha]
    rw [if_pos trivial]; exact EqC.now R
/-- how long one may wait: the first of 1 .. 24 that is too late, less 1 -/
def badW (W : Int32) (c0 pace reach first : Nat) (sq : Nat → Nat) (m : Nat) : Bool := match hadS W c0 m pace reach sq with | none => true | some n => decide (first < n)
def waitA (o : Option Nat) : Int32 := match o with | none => nI 24 | some k => nI (k - 1)
theorem eq_wait {X M : hMem} (R : RR X M) (a b : Int32) : EqC (fX9_wait a b X) (fX10_wait a b M) := by
  obtain ⟨H, hH, hx, hm⟩ := R.hats
  obtain ⟨C, hC, cx, cm⟩ := R.cats
  unfold fX9_wait fX10_wait
  rw [xe_hat hx (by omega), xe_cat cx (by omega), there_m hm cm (by omega) (by omega), b01, b01]
  by_cases ha : h_ib a H
  · by_cases hb : h_ib b C
    · simp only [if_pos ha, if_pos hb]
      rw [if_neg (by decide)]
      obtain ⟨h, h1, h2, rfl⟩ := ib_ex ha
      obtain ⟨p, p1, p2, rfl⟩ := ib_ex hb
      obtain ⟨r, q, l, X1, r1, q1, l1, ok, mm, q2, l2, x1, x2, x3, x4, -, -⟩ := R.ctx hH h1
      obtain ⟨c0, pa, re, c1, pp1, e1, m0, m1, m2, y0, y1, y2⟩ := R.cctx (p := p) (by omega)
      obtain ⟨X2, f1, f2, f3⟩ := x_hadBy ok x2 (s := (q, l)) x3 q1 l1 (p := p) (by omega) c1 pp1 e1 (by rw [x4 _ (by omega)]; exact y0) (by rw [x4 _ (by omega)]; exact y1) (by rw [x4 _ (by omega)]; exact y2)
      obtain ⟨M2, g1, g2, g3⟩ := m_hadBy ok mm R.hold q1 l1 q2 l2 (p := p) (by omega) c1 pp1 e1 m0 m1 m2
      have kx : keepX X X2 := kP.X x4 (fun a h1 h2 => f2 a (by omega) (by omega) h2)
      unfold fX9_hadNow
      rw [show (wOf X M h r).1 0 = M 1 0 from rfl] at f1 g1 g3
      rw [x1, Option.bind_some, if_pos (ib_mk (by omega) (by decide))]
      simp only [nI_clamp (show p < 2 ^ 31 by omega)]
      rw [f1, Option.bind_some, g1, Option.bind_some, Option.bind_some]
      dsimp only
      have hadM : ∀ m, m ≤ 24 → fX8_had 47 (X2 (11 + p) 0) (nI m) (X2 (11 + p) 1) (X2 (11 + p) 2) X2 = some (ansI (hadS (M 1 0) c0 m pa re (fun n => (runS noH (wOf X M h r) 0 n (q, l)).1))) := fun m hm => by
        rw [f2 (11 + p) (by omega) (by omega) (by omega), x4 (11 + p) (by omega), y0, y1, y2]
        exact x_had (X := X2) (W := M 1 0) (a := 47) (s := fun n => runS noH (wOf X M h r) 0 n (q, l)) (by rw [f2 40 (by omega) (by omega) (by omega)]; exact x2.1) (Or.inl rfl) (fun n hn => ⟨f3 n hn, (runS_lt (s := (q, l)) q1 l1 n).1, (runS_lt (s := (q, l)) q1 l1 n).2⟩) c1 (by omega) pp1 e1
      rw [if_pos (ib_mk (by omega) (by decide))]
      cases eo : hadS (M 1 0) c0 0 pa re (fun n => (runS noH (wOf X M h r) 0 n (q, l)).1) with
      | none =>
        rw [show ansI none = -1 from rfl, if_pos rfl]
        refine EqC.of ⟨(-1, X2), (-1, M2), ?_, rfl, rfl, R.keep kx g2.keep⟩
        show h_lp (fX9_wait_L43 (-1) (11 + p) X2) (19999 + 1) (-1, 0) = _
        rw [lp_s]
        unfold fX9_wait_L43
        rw [if_pos (by decide)]
      | some first =>
        obtain ⟨-, hf24⟩ := hadS_lt eo (by omega)
        rw [show ansI (some first) = nI first from rfl, if_neg (n_m1 (by omega))]
        have hB : ∀ m, badW (M 1 0) c0 pa re first (fun n => (runS noH (wOf X M h r) 0 n (q, l)).1) m = (match hadS (M 1 0) c0 m pa re (fun n => (runS noH (wOf X M h r) 0 n (q, l)).1) with | none => true | some n => decide (first < n)) := fun _ => rfl
        generalize badW (M 1 0) c0 pa re first (fun n => (runS noH (wOf X M h r) 0 n (q, l)).1) = bad at hB
        have late : ∀ m, m ≤ 24 → first < m → bad m = true := fun m hm hlt => by
          rw [hB]
          cases e : hadS (M 1 0) c0 m pa re (fun n => (runS noH (wOf X M h r) 0 n (q, l)).1) with
          | none => rfl
          | some n =>
            have := hadS_lt e (by omega)
            exact decide_eq_true (by omega)
        -- x
        obtain ⟨u, u1, u2⟩ := lp_h (body := fX9_wait_L43 (nI first) (11 + p) X2) (fun z => (z = (-1, 0)) ∨ ∃ i, 1 ≤ i ∧ i ≤ 25 ∧ z = (nI (i - 1), nI i) ∧ frst bad (25 - i) i = frst bad 24 1) (fun u => u = (waitA (frst bad 24 1), X2)) (fun z => 30 - z.2.toNatClampNeg) (by
          rintro k z (rfl | ⟨i, i1, i2, rfl, hz⟩) hk
          · unfold fX9_wait_L43
            dsimp only
            rw [if_neg (nI_pos (by omega)), show fX8_had 47 (X2 (11 + p) 0) 0 (X2 (11 + p) 1) (X2 (11 + p) 2) X2 = _ from hadM 0 (by omega), eo, Option.bind_some, show ansI (some first) = nI first from rfl, if_neg (nI_pos (by omega)), if_pos (nI_le (Nat.le_refl _) (by omega))]
            exact hk _ (Or.inr ⟨1, by omega, by omega, rfl, rfl⟩) (by decide)
          · unfold fX9_wait_L43
            dsimp only
            by_cases hlt : first < i
            · rw [if_pos (nI_lt hlt (by omega))]
              refine ⟨_, rfl, ?_⟩
              rw [← hz]
              rcases (by omega : i = 25 ∨ i ≤ 24) with g | g
              · rw [g]; rfl
              · obtain ⟨t, ht⟩ : ∃ t, 25 - i = t + 1 := ⟨24 - i, by omega⟩
                rw [ht, frst_s, if_pos (late i g hlt)]; rfl
            · obtain ⟨t, ht⟩ : ∃ t, 25 - i = t + 1 := ⟨24 - i, by omega⟩
              rw [ht, frst_s] at hz
              rw [if_neg (nI_nlt (by omega) (by omega)), hadM i (by omega), Option.bind_some]
              have hb := hB i
              cases e : hadS (M 1 0) c0 i pa re (fun n => (runS noH (wOf X M h r) 0 n (q, l)).1) with
              | none =>
                rw [e] at hb
                rw [if_pos hb] at hz
                rw [show ansI none = -1 from rfl, if_pos (by decide)]
                exact ⟨_, rfl, by rw [← hz]; rfl⟩
              | some n =>
                rw [e] at hb
                have hn := hadS_lt e (by omega)
                rw [show ansI (some n) = nI n from rfl, if_neg (nI_pos (by omega))]
                by_cases g : first < n
                · rw [if_pos (by rw [hb]; exact decide_eq_true g)] at hz
                  rw [if_neg (nI_ge g (by omega))]
                  exact ⟨_, rfl, by rw [← hz]; rfl⟩
                · rw [if_neg (by rw [hb]; show ¬ decide (first < n) = true; rw [decide_eq_false g]; decide)] at hz
                  rw [if_pos (nI_le (by omega) (by omega)), nI_1]
                  refine hk _ (Or.inr ⟨i + 1, by omega, by omega, rfl, by rw [show 25 - (i + 1) = t from by omega]; exact hz⟩) ?_
                  dsimp only
                  rw [nI_clamp (by omega), nI_clamp (by omega)]
                  omega) h_FU (-1, 0) (Or.inl rfl) (by unfold h_FU; show 30 - _ < 20000; omega)
        rw [u1, u2]
        refine EqC.m ?_
        have a1 : (1 : Int32).toNatClampNeg = 1 := by decide
        obtain ⟨v, v1, v2, v3⟩ := lp_h (body := fX10_wait_L32 (nI h) (nI p) (nI first)) (fun z => ∃ (i : Nat) (N : hMem), 1 ≤ i ∧ i ≤ 25 ∧ kQ M N ∧ ((z = (nI (i - 1), 1, N) ∧ frst bad (25 - i) i = frst bad 24 1) ∨ (z = (nI (i - 1), 0, N) ∧ frst bad 24 1 = some i))) (fun v => v.1 = waitA (frst bad 24 1) ∧ kQ M v.2) (fun z => 60 - 2 * z.1.toNatClampNeg + z.2.1.toNatClampNeg) (by
          rintro k z ⟨i, N, i1, i2, kN, ⟨rfl, hz⟩ | ⟨rfl, hz⟩⟩ hk
          · unfold fX10_wait_L32
            dsimp only
            rw [if_neg (by decide)]
            rcases (by omega : i = 25 ∨ i ≤ 24) with g | g
            · subst g
              rw [if_pos (by decide)]
              exact ⟨_, rfl, by rw [← hz]; rfl, kN⟩
            · obtain ⟨t, ht⟩ : ∃ t, 25 - i = t + 1 := ⟨24 - i, by omega⟩
              rw [ht, frst_s] at hz
              have ei : nI (i - 1) + 1 = nI i := by rw [nI_1]; congr 1; omega
              rw [if_neg (show ¬ (24 : Int32) ≤ nI (i - 1) from nI_ge (b := 24) (by omega) (by decide)), c3a (by omega), show nI (3 * p) + 1 = nI (3 * p + 1) from nI_1 _, show nI (3 * p) + 2 = nI (3 * p + 2) from nI_add _ 2, if_pos (ib_mk (by omega) (by decide)), if_pos (ib_mk (by omega) (by decide)), if_pos (ib_mk (by omega) (by decide)), nI_clamp (by omega), nI_clamp (by omega), nI_clamp (by omega), kN.1 8 (by omega), m0, m1, m2, ei]
              obtain ⟨N2, w1, w2, -⟩ := m_had ok (mm.kQ kN) (by rw [kN.2 39 (by omega) (by omega)]; exact R.hold) (m := i) q1 l1 (by rw [kN.1 6 (by omega)]; exact q2) (by rw [kN.1 7 (by omega)]; exact l2) (c0 := c0) c1 g pp1 e1
              rw [show (wOf X M h r).1 0 = M 1 0 from rfl] at w1
              rw [w1, Option.bind_some]
              dsimp only
              have kN2 := kN.tr w2
              unfold fX10_wait_L99 fX10_wait_L100
              have hb := hB i
              have stop : bad i = true → ∃ r_1, k (nI (i - 1) + 0, 0, N2) = some r_1 ∧ (r_1.1 = waitA (frst bad 24 1) ∧ kQ M r_1.2) := fun hbi => by
                rw [if_pos hbi] at hz
                rw [show nI (i - 1) + 0 = nI (i - 1) from Int32.add_zero _]
                refine hk _ ⟨i, N2, i1, i2, kN2, Or.inr ⟨rfl, hz.symm⟩⟩ ?_
                dsimp only
                have a1 : (1 : Int32).toNatClampNeg = 1 := by decide
                have a0 : (0 : Int32).toNatClampNeg = 0 := by decide
                rw [a1, a0]; omega
              cases e : hadS (M 1 0) c0 i pa re (fun n => (runS noH (wOf X M h r) 0 n (q, l)).1) with
              | none =>
                rw [e] at hb
                rw [show ansI none = -1 from rfl, if_pos rfl, if_pos rfl]
                exact stop hb
              | some n =>
                rw [e] at hb
                have hn := hadS_lt e (by omega)
                rw [show ansI (some n) = nI n from rfl, if_neg (n_m1 (by omega))]
                by_cases gg : first < n
                · rw [if_pos (nI_lt gg (by omega)), if_pos rfl]
                  exact stop (by rw [hb]; exact decide_eq_true gg)
                · rw [if_neg (nI_nlt (by omega) (by omega)), if_neg (by decide), ei]
                  rw [if_neg (by rw [hb]; show ¬ decide (first < n) = true; rw [decide_eq_false gg]; decide)] at hz
                  refine hk _ ⟨i + 1, N2, by omega, by omega, kN2, Or.inl ⟨rfl, by rw [show 25 - (i + 1) = t from by omega]; exact hz⟩⟩ ?_
                  dsimp only
                  rw [nI_clamp (by omega), nI_clamp (by omega)]
                  omega
          · unfold fX10_wait_L32
            dsimp only
            rw [if_pos rfl]
            exact ⟨_, rfl, by rw [hz]; rfl, kN⟩) h_FU (0, 1, M2) ⟨1, M2, by omega, by omega, g2, Or.inl ⟨rfl, rfl⟩⟩ (by show 60 - _ + (1 : Int32).toNatClampNeg < 20000; rw [a1]; omega)
        exact ⟨v, v1, v2, R.keep kx v3.keep⟩
    · simp only [if_pos ha, if_neg hb]
      rw [if_pos trivial]; exact EqC.now R
  · simp only [if_neg ha]
    rw [if_pos trivial]; exact EqC.now R
end
section
/-! WHAT IT IS WORTH -/
theorem x_tell {w : hWd} {T : Nat} {X : hMem} (h : MX w T X) {q l : Nat} (hq : q < 32) (hl : l < 3) (s t : Int32) : ∃ Y, fX8_tell s t (nI (stN (q, l))) X = some Y ∧ kT X Y ∧ ∀ j, j < 6 → Y 48 j = nmS s (nI l) (nI w.2.2.2.2.1) t (nI q) (nI w.2.2.2.1) j := by
  obtain ⟨h1, h2, h3, h4, h5, h6, h7, h8, h9, h10⟩ := h
  unfold fX8_tell fX8_tell_L44
  simp only [show nI (stN (q, l)) = nI (32 * l + q) from rfl, x_lieOf hq hl, x_sqOf hq hl]
  refine ⟨_, rfl, ?_, ?_⟩
  · intro a ha _
    simp (disch := omega) only [m_row]
  · intro j hj
    simp (disch := omega) only [m_row, m_own, u_e, h4, h5]
    rcases (by omega : j = 0 ∨ j = 1 ∨ j = 2 ∨ j = 3 ∨ j = 4 ∨ j = 5) with rfl | rfl | rfl | rfl | rfl | rfl <;> rfl
theorem worth_eq {X M : hMem} (R : RR X M) {h p H : Nat} (hH : H ≤ 4) (hh : h < H) (hp : p < 4) : ∃ (v : Int32) (X' M' : hMem), fX9_worthHad (nI h) (nI p) X = some (v, X') ∧ fX10_gainOf (nI h) (nI p) M = some (v, M') ∧ RR X' M' ∧ (∀ a, a < 40 ∨ 55 < a → ¬ (59 ≤ a ∧ a < 80 ∧ a % 4 = 3) → X' a = X a) ∧ kQ M M' := by
  obtain ⟨r, q, l, X1, r1, q1, l1, ok, mm, q2, l2, x1, x2, x3, x4, -, -⟩ := R.ctx hH hh
  obtain ⟨c0, pa, re, c1, p1, e1, m0, m1, m2, y0, y1, y2⟩ := R.cctx hp
  obtain ⟨X2, f1, f2, f3⟩ := x_hadBy ok x2 (s := (q, l)) x3 q1 l1 hp c1 p1 e1 (by rw [x4 _ (by omega)]; exact y0) (by rw [x4 _ (by omega)]; exact y1) (by rw [x4 _ (by omega)]; exact y2)
  obtain ⟨M2, g1, g2, g3⟩ := m_hadBy ok mm R.hold q1 l1 q2 l2 hp c1 p1 e1 m0 m1 m2
  have k2 : kP X1 X2 := fun a h1 h2 => f2 a (by omega) (by omega) h2
  have fx : ∀ Z : hMem, kP X2 Z → ∀ a, a < 40 ∨ 55 < a → ¬ (59 ≤ a ∧ a < 80 ∧ a % 4 = 3) → Z a = X a := fun Z kZ a h1 h2 => by rw [kZ a (by omega) h2, k2 a (by omega) h2, x4 a h1]
  unfold fX9_worthHad fX10_gainOf
  rw [x1, Option.bind_some, if_pos (ib_mk hp (by decide))]
  simp only [nI_clamp (show p < 2 ^ 31 by omega)]
  rw [f1, Option.bind_some, g1, Option.bind_some]
  dsimp only
  have bl := fun n => runS_lt (hl := noH) (w := wOf X M h r) (a := 0) (s := (q, l)) q1 l1 n
  cases eo : hadS ((wOf X M h r).1 0) c0 0 pa re (fun n => (runS noH (wOf X M h r) 0 n (q, l)).1) with
  | none =>
    rw [show ansI none = -1 from rfl, if_neg (by decide), if_pos rfl]
    exact ⟨-100, X2, M2, rfl, rfl, R.keep (kP.X x4 k2) g2.keep, fx X2 (kP.rf X2), g2⟩
  | some n =>
    have hn := hadS_lt eo (by omega)
    obtain ⟨n36, n37⟩ := g3 n eo
    obtain ⟨b1, b2⟩ := bl n
    rw [show ansI (some n) = nI n from rfl, if_pos (nI_pos' (by omega)), if_neg (n_m1 (by omega)), if_pos (ib_mk hp (by decide)), if_pos (ib_mk (by omega) (by decide))]
    simp only [nI_clamp (show n < 2 ^ 31 by omega)]
    rw [f3 n (by omega), f2 (11 + p) (by omega) (by omega) (by omega), x4 (11 + p) (by omega), y1]
    have mx2 := x2.kP k2
    obtain ⟨Y, t1, t2, t3⟩ := x_tell mx2 (q := (runS noH (wOf X M h r) 0 n (q, l)).1) (l := (runS noH (wOf X M h r) 0 n (q, l)).2) b1 b2 (nI pa) (nI n)
    rw [show fX8_tell (nI pa) (nI n) (nI (stN (runS noH (wOf X M h r) 0 n (q, l)))) X2 = some Y from t1, Option.bind_some]
    obtain ⟨z1, z2, z3, z4, z5, z6, z7, z8, ⟨mc, ms, z9⟩, z10⟩ := mx2.kT t2
    have hB : h_isB hYx (56 + 4 * r) 3 0 = true := h_forall (N := 6) (p := fun T => h_isB hYx (56 + 4 * T) 3 0) (by decide +kernel) z7
    obtain ⟨Y2, s1, s2⟩ := x_says (p := 2) z7 (by omega) z9 rfl rfl (rfl : Y 48 = Y 48)
    have ev : evX (Y (57 + 4 * r)) (Y (58 + 4 * r)) 2 (Y 48) = (wOf X M h r).2.2.2.2.2 2 (nmS (nI pa) (nI (runS noH (wOf X M h r) 0 n (q, l)).2) (nI (wOf X M h r).2.2.2.2.1) (nI n) (nI (runS noH (wOf X M h r) 0 n (q, l)).1) (nI (wOf X M h r).2.2.2.1)) := by
      rw [z10]; exact evX_c (by omega) z9 t3
    rw [z8, nI_clamp (by omega), if_pos hB, show fX4_says (56 + 4 * r) 2 Y = _ from s1, Option.bind_some, ev]
    obtain ⟨u1, u2, u3, u4, u5, ⟨r', u6, u7, u8⟩, u9⟩ := mm.kQ g2
    have hp3 : (3 : Int32) * nI p + 1 = nI (3 * p + 1) := by rw [c3a hp, nI_1]
    rw [hp3, if_pos (ib_mk (by omega) (by decide)), if_pos (ib_mk u1 (by decide)), if_pos (ib_mk u1 (by decide)), nI_clamp (by omega), nI_clamp (by omega), g2.1 8 (by omega), m1, n37, u5, n36, u4]
    obtain ⟨M3, v1, v2⟩ := m_asksOf (p := 2) (s := nI pa) (l := nI (runS noH (wOf X M h r) 0 n (q, l)).2) (mo := nI (wOf X M h r).2.2.2.2.1) (t := nI n) (q := nI (runS noH (wOf X M h r) 0 n (q, l)).1) (k := nI (wOf X M h r).2.2.2.1) u6 (by omega) u7 u8 (fun _ _ => trivial)
    have ev2 : evX (X (57 + 4 * r)) (X (58 + 4 * r)) 2 (fun j => if j < 6 then nmS (nI pa) (nI (runS noH (wOf X M h r) 0 n (q, l)).2) (nI (wOf X M h r).2.2.2.2.1) (nI n) (nI (runS noH (wOf X M h r) 0 n (q, l)).1) (nI (wOf X M h r).2.2.2.1) j else M2 20 j) = (wOf X M h r).2.2.2.2.2 2 (nmS (nI pa) (nI (runS noH (wOf X M h r) 0 n (q, l)).2) (nI (wOf X M h r).2.2.2.2.1) (nI n) (nI (runS noH (wOf X M h r) 0 n (q, l)).1) (nI (wOf X M h r).2.2.2.1)) := evX_c (by omega) u8 (fun j hj => if_pos hj)
    rw [show fX10_asksOf 2 (nI pa) (nI (runS noH (wOf X M h r) 0 n (q, l)).2) (nI (wOf X M h r).2.2.2.2.1) (nI n) (nI (runS noH (wOf X M h r) 0 n (q, l)).1) (nI (wOf X M h r).2.2.2.1) M2 = _ from v1, Option.bind_some, ev2]
    have kq : kQ M M3 := g2.tr ⟨fun a ha => v2 a (by omega) (by omega), fun j _ _ => by rw [v2 0 (by omega) (by omega)]⟩
    have kz : kP X2 Y2 := t2.P.tr (fun a h1 h2 => s2 a (by omega))
    exact ⟨_, Y2, M3, rfl, rfl, R.keep (kP.X x4 (k2.tr kz)) kq.keep, fx Y2 kz, kq⟩
theorem eq_gain {X M : hMem} (R : RR X M) (a b : Int32) : EqC (fX9_gain a b X) (fX10_gain a b M) := by
  obtain ⟨H, hH, hx, hm⟩ := R.hats
  obtain ⟨C, hC, cx, cm⟩ := R.cats
  unfold fX9_gain fX10_gain
  rw [xe_hat hx (by omega), xe_cat cx (by omega), there_m hm cm (by omega) (by omega), b01, b01]
  by_cases ha : h_ib a H
  · by_cases hb : h_ib b C
    · simp only [if_pos ha, if_pos hb]
      rw [if_neg (by decide)]
      obtain ⟨h, h1, h2, rfl⟩ := ib_ex ha
      obtain ⟨p, p1, p2, rfl⟩ := ib_ex hb
      obtain ⟨v, X', M', e1, e2, R', -, -⟩ := worth_eq R hH h1 (p := p) (by omega)
      rw [e1, e2]
      exact EqC.now R'
    · simp only [if_pos ha, if_neg hb]
      rw [if_pos trivial]; exact EqC.now R
  · simp only [if_neg ha]
    rw [if_pos trivial]; exact EqC.now R
theorem eq_whom {X M : hMem} (R : RR X M) (b c : Int32) : EqC (fX9_whom b c X) (fX10_whom b c M) := by
  obtain ⟨H, hH, hx, hm⟩ := R.hats
  obtain ⟨C, hC, cx, cm⟩ := R.cats
  unfold fX9_whom fX10_whom
  rw [xe_cat cx (by omega), me_cat cm (by omega), xe_01, me_in1, b01, b01, b01, b01]
  by_cases hb : h_ib b C
  · by_cases hc : h_ib c 2
    · simp only [if_pos hb, if_pos hc]
      obtain ⟨p, p1, p2, rfl⟩ := ib_ex hb
      refine EqC.of (lp20 (body := fX9_whom_L29 (nI p) c) (body' := fX10_whom_L31 (nI p) c) H (fun i s s' => ∃ (u v : Int32) (X' M' : hMem), s = (u, v, nI i, X') ∧ s' = (u, v, nI i, M') ∧ RR X' M' ∧ X' 1 5 = nI H ∧ M' 0 3 = nI H) EqQ _ _ ⟨-1, 0, X, M, rfl, rfl, R, hx, hm⟩ (by omega) ?_ ?_)
      · rintro k k' s s' ⟨u, v, X', M', rfl, rfl, R', hx', hm'⟩
        unfold fX9_whom_L29 fX10_whom_L31
        dsimp only
        simp only [hx', hm']
        rw [if_pos (nI_le (Nat.le_refl _) (by omega)), if_pos (nI_le (Nat.le_refl _) (by omega))]
        by_cases ec : c = 0
        · rw [if_pos ec, if_pos ec]; exact ⟨_, _, rfl, rfl, rfl, R'⟩
        · rw [if_neg ec, if_neg ec]; exact ⟨_, _, rfl, rfl, rfl, R'⟩
      · rintro k k' i s s' hi ⟨u, v, X', M', rfl, rfl, R', hx', hm'⟩ hk
        unfold fX9_whom_L29 fX10_whom_L31 fX10_whom_L62
        dsimp only
        simp only [hx', hm']
        rw [if_neg (nI_ge hi (by omega)), if_neg (nI_ge hi (by omega))]
        obtain ⟨z, X2, M2, e1, e2, R2, fx, kq⟩ := worth_eq R' hH hi (p := p) (by omega)
        rw [e1, e2, Option.bind_some, Option.bind_some, nI_1]
        dsimp only
        have hx2 : X2 1 5 = nI H := by rw [fx 1 (by omega) (by omega)]; exact hx'
        have hm2 : M2 0 3 = nI H := by rw [kq.2 3 (by omega) (by omega)]; exact hm'
        by_cases g : z ≤ v
        · simp only [if_pos g]; exact hk _ _ ⟨_, _, X2, M2, rfl, rfl, R2, hx2, hm2⟩
        · simp only [if_neg g]; exact hk _ _ ⟨_, _, X2, M2, rfl, rfl, R2, hx2, hm2⟩
    · simp only [if_pos hb, if_neg hc]; exact EqC.now R
  · simp only [if_neg hb]; exact EqC.now R
/-! held -/
theorem runS_all {hl : Nat → Bool} {w : hWd} {a : Nat} {s : Nat × Nat} : ∀ {n : Nat}, (∀ j, j < n → hl (a + j) = true) → runS hl w a n s = s
  | 0, _ => rfl
  | n + 1, h => by rw [runS_s, if_pos (h n (by omega)), runS_all (n := n) (fun j hj => h j (by omega))]
theorem run_held (w : hWd) (s : Nat × Nat) (f m n : Nat) : runS (fun t => decide (f ≤ t ∧ t < f + m)) w 0 n s = runS noH w (min n (f + m)) (n - min n (f + m)) (runS noH w 0 (min n f) s) := by
  have e1 : n = min n f + ((min n (f + m) - min n f) + (n - min n (f + m))) := by omega
  have e2 : runS (fun t => decide (f ≤ t ∧ t < f + m)) w 0 n s = runS (fun t => decide (f ≤ t ∧ t < f + m)) w 0 (min n f + ((min n (f + m) - min n f) + (n - min n (f + m)))) s := by rw [← e1]
  rw [e2, runS_add, runS_add, Nat.zero_add]
  have a1 : runS (fun t => decide (f ≤ t ∧ t < f + m)) w 0 (min n f) s = runS noH w 0 (min n f) s := runS_c (fun j hj => decide_eq_false (by omega))
  rw [a1, runS_all (n := min n (f + m) - min n f) (fun j hj => decide_eq_true (by omega)), show min n f + (min n (f + m) - min n f) = min n (f + m) from by omega]
  exact runS_c (fun j hj => decide_eq_false (by omega))
theorem fj_min (a b : Nat) (ha : a < 2 ^ 31) (hb : b < 2 ^ 31) (M : hMem) : fJ9_min_7cf53 (nI a) (nI b) M = nI (min a b) := by
  unfold fJ9_min_7cf53
  by_cases h : b < a
  · rw [if_pos (nI_lt h ha), Nat.min_eq_right (by omega)]
  · rw [if_neg (nI_nlt (by omega) hb), Nat.min_eq_left (by omega)]
/-- held, the other one's -/
theorem m_sqHeld {w : hWd} {h : Nat} {c e : Nat → Int32} {M : hMem} (hw : okW w) (m : MM w h c e M) {n q l f k : Nat} (hn : n ≤ 24) (hq : q < 32) (hl : l < 3) (h6 : M 6 h = nI q) (h7 : M 7 h = nI l) (hf : f < 100) (hk : k < 100) : ∃ M', fX10_squareHeld (nI h) (nI n) (nI f) (nI k) M = some (nI (runS (fun t => decide (f ≤ t ∧ t < f + k)) w 0 n (q, l)).1, M') ∧ (∀ a, a ≠ 0 → a ≠ 19 → a ≠ 20 → M' a = M a) ∧ (∀ j, j ≠ 36 → j ≠ 37 → j ≠ 38 → j ≠ 39 → M' 0 j = M 0 j) ∧ M' 0 39 = 0 := by
  unfold fX10_squareHeld
  have mm : MM w h c e (h_up (h_up M 0 38 (nI f)) 0 39 (nI k)) := by
    obtain ⟨h1, h2, h3, h4, h5, ⟨r, h8, h9, h10⟩, h11⟩ := m
    refine ⟨h1, ?_, ?_, ?_, ?_, ⟨r, h8, ?_, ?_⟩, h11⟩
    · simp (disch := omega) only [m_row]; exact h2
    · simp (disch := omega) only [m_row]; exact h3
    · simp (disch := omega) only [m_row]; exact h4
    · simp (disch := omega) only [m_row]; exact h5
    · simp (disch := omega) only [m_own, u_n]; exact h9
    · simp (disch := omega) only [m_row]; exact h10
  obtain ⟨M', e1, e2, e3, e4⟩ := m_behind hw mm (n := n) hn hq hl (by simp (disch := omega) only [m_row]; exact h6) (by simp (disch := omega) only [m_row]; exact h7)
  rw [e1, Option.bind_some]
  have hh : runS (hldM (h_up (h_up M 0 38 (nI f)) 0 39 (nI k))) w 0 n (q, l) = runS (fun t => decide (f ≤ t ∧ t < f + k)) w 0 n (q, l) := runS_c (fun j hj => by
    rw [Nat.zero_add]
    exact hldM_f (by simp (disch := omega) only [m_own, u_n, u_s]) (by simp (disch := omega) only [m_own, u_s]) (by omega) (by omega) (by omega))
  rw [hh]
  refine ⟨_, rfl, fun a h1 h2 h3 => ?_, fun j h1 h2 h3 h4 => ?_, ?_⟩ <;> dsimp only
  · rw [m_row h1, e2.1 a h1 h2 h3, m_row h1, m_row h1]
  · rw [m_own, u_n h4, e2.2 j h1 h2, m_own, u_n h4, m_own, u_n h3]
  · rw [m_own, u_s]
theorem eq_held {X M : hMem} (R : RR X M) (a b c : Int32) : EqC (fX9_held a b c X) (fX10_held a b c M) := by
  obtain ⟨H, hH, hx, hm⟩ := R.hats
  unfold fX9_held fX10_held
  rw [xe_hat hx (by omega), me_hat hm (by omega), b01, b01, xe_beh, me_sec, b01, b01]
  by_cases ha : h_ib a H
  · by_cases hb : h_ib b 25
    · simp only [if_pos ha, if_pos hb]
      by_cases c0 : c < 0
      · rw [if_pos c0, if_pos c0]; exact EqC.now R
      · rw [if_neg c0, if_neg c0]
        obtain ⟨h, h1, h2, rfl⟩ := ib_ex ha
        obtain ⟨n, n1, n2, rfl⟩ := ib_ex hb
        obtain ⟨d, d1, rfl⟩ := nI_of c0
        rw [show nI d / 100 = nI (d / 100) from pk_div (d := 100) d1 (by decide) (by decide), show h_rem (nI d) 100 = nI (d % 100) from n_rem (d := 100) d1 (by decide) (by decide), xe_sec, xe_beh, b01, b01]
        by_cases hf : d / 100 < 24
        · rw [if_pos (ib_mk hf (by decide)), if_neg (show ¬ (24 : Int32) ≤ nI (d / 100) from nI_ge (b := 24) hf (by decide))]
          by_cases hk : d % 100 < 25
          · rw [if_pos (ib_mk hk (by decide)), if_pos (show nI (d % 100) ≤ (24 : Int32) from nI_le (b := 24) (by omega) (by decide))]
            obtain ⟨r, q, l, X1, r1, q1, l1, ok, mm, q2, l2, x1, x2, x3, x4, -, -⟩ := R.ctx hH h1
            rw [x1, Option.bind_some, x3, nI_add, fj_min _ _ (by omega) (by omega), fj_min _ _ (by omega) (by omega)]
            obtain ⟨X2, y1, y2⟩ := x_later ok x2 (a := 0) (b := min n (d / 100)) (s := (q, l)) (by omega) (by omega) q1 l1
            have hL := runS_lt (hl := noH) (w := wOf X M h r) (a := 0) (s := (q, l)) q1 l1 (min n (d / 100))
            rw [Nat.sub_zero] at y1
            obtain ⟨X3, z1, z2⟩ := x_later ok (x2.kT y2) (a := min n (d / 100 + d % 100)) (b := n) (s := runS noH (wOf X M h r) 0 (min n (d / 100)) (q, l)) (by omega) (by omega) hL.1 hL.2
            have hL2 := runS_lt (hl := noH) (w := wOf X M h r) (a := min n (d / 100 + d % 100)) hL.1 hL.2 (n - min n (d / 100 + d % 100))
            rw [show fX8_later (nI (stN (q, l))) 0 (nI (min n (d / 100))) X1 = _ from y1, Option.bind_some]
            dsimp only
            rw [z1, Option.bind_some]
            dsimp only
            rw [x_sqS hL2.1 hL2.2]
            obtain ⟨M2, g1, g2, g3, g4⟩ := m_sqHeld ok mm (n := n) (f := d / 100) (k := d % 100) (by omega) q1 l1 q2 l2 (by omega) (by omega)
            rw [g1, Option.bind_some, run_held]
            dsimp only
            refine EqC.now (R.keep (kP.X x4 (y2.P.tr z2.P)) ⟨fun a ha => ?_, fun j hj => ?_⟩)
            · unfold kM at ha; exact g2 a (by omega) (by omega) (by omega)
            · unfold kM0 at hj
              by_cases e : j = 39
              · rw [e, g4, R.hold]
              · exact g3 j (by omega) (by omega) (by omega) e
          · rw [if_neg (fun hh => hk ((ib_iff (by omega)).mp hh)), if_neg (show ¬ nI (d % 100) ≤ (24 : Int32) from nI_ge (a := 24) (by omega) (by omega))]; exact EqC.now R
        · rw [if_neg (fun hh => hf ((ib_iff (by omega)).mp hh)), if_pos (show (24 : Int32) ≤ nI (d / 100) from nI_le (a := 24) (by omega) (by omega))]; exact EqC.now R
    · simp only [if_pos ha, if_neg hb]; exact EqC.now R
  · simp only [if_neg ha]; exact EqC.now R
end
section
/-! SETTINGS: count, told, force, come, hat, set, does, street -/
theorem RR.texts {X M : hMem} (R : RR X M) : ∃ T, 1 ≤ T ∧ T ≤ 6 ∧ X 0 4 = nI T ∧ M 0 14 = nI T ∧ gNum (X 1 7) (M 0 15) T := by
  obtain ⟨T, t1, t2, t3, t4, n, -⟩ := R
  exact ⟨T, t1, t2, t3, t4, n.2.2.2.2.2.2⟩
theorem RR.tape {X M : hMem} (R : RR X M) : gTape X M := by
  obtain ⟨T, t1, t2, t3, t4, n, k, f1, f2, tp, -⟩ := R
  exact tp
theorem RR.shs {X M : hMem} (R : RR X M) : gSheets X M := by
  obtain ⟨T, t1, t2, t3, t4, n, k, f1, f2, tp, sh, -⟩ := R
  exact sh
theorem eq_count {X M : hMem} (R : RR X M) (a : Int32) : EqP (some (fX9_count a X)) (fX10_count a M) := by
  obtain ⟨H, _, hx, hm⟩ := R.hats
  obtain ⟨C, _, cx, cm⟩ := R.cats
  obtain ⟨T, _, _, t3, t4, g⟩ := R.texts
  unfold fX10_count fX9_count
  rw [hx, hm, cx, cm, t3, t4, g.1, R.tape.1.1, R.setsE (k := 0) (by omega), R.setsE (k := 1) (by omega), R.setsE (k := 2) (by omega)]
  by_cases c0 : a = 0
  · rw [if_pos c0, if_pos c0]; exact EqP.now _
  rw [if_neg c0, if_neg c0]
  by_cases c1 : a = 1
  · rw [if_pos c1, if_pos c1]; exact EqP.now _
  rw [if_neg c1, if_neg c1]
  by_cases c2 : a = 2
  · rw [if_pos c2, if_pos c2, c2, if_pos (show h_ib (2 - 2) 3 from ib_mk (j := 0) (by omega) (by omega))]; exact EqP.now _
  rw [if_neg c2, if_neg c2]
  by_cases c3 : a = 3
  · rw [if_pos c3, if_pos c3, c3, if_pos (show h_ib (3 - 2) 3 from ib_mk (j := 1) (by omega) (by omega))]; exact EqP.now _
  rw [if_neg c3, if_neg c3]
  by_cases c4 : a = 4
  · rw [if_pos c4, if_pos c4, c4, if_pos (show h_ib (4 - 2) 3 from ib_mk (j := 2) (by omega) (by omega))]; exact EqP.now _
  rw [if_neg c4, if_neg c4]
  by_cases c5 : a = 5
  · rw [if_pos c5, if_pos c5]; exact EqP.now _
  rw [if_neg c5, if_neg c5]
  by_cases c6 : a = 6
  · rw [if_pos c6, if_pos c6]; exact EqP.now _
  rw [if_neg c6, if_neg c6]
  by_cases c7 : a = 7
  · rw [if_pos c7, if_pos c7]; exact EqP.now _
  rw [if_neg c7, if_neg c7]; exact EqP.now _
theorem eq_told {X M : hMem} (R : RR X M) (a b : Int32) : EqP (fX9_told a b X) (fX10_told a b M) := by
  obtain ⟨H, hH, hx, hm⟩ := R.hats
  unfold fX9_told fX10_told
  rw [xe_hat hx (by omega), me_hat hm (by omega), b01, b01]
  by_cases ha : h_ib a H
  rotate_left
  · rw [if_neg ha, if_neg ha]; exact EqP.now _
  rw [if_pos ha, if_pos ha]
  obtain ⟨h, h1, h2, rfl⟩ := ib_ex ha
  obtain ⟨q, l, hq, hl, e6, e7, e2⟩ := R.sqE (h := h) (by omega)
  obtain ⟨k0, k1, -⟩ := R.hatE (i := h) (by omega)
  simp only [nI_clamp h2, e6, e7, e2, if_pos (show h_ib (nI h) 4 from ib_mk (by omega) (by omega)), k0, k1, x_sqS (s := (q, l)) hq hl, x_lieS (s := (q, l)) hq hl]
  by_cases c0 : b = 0
  · simp only [if_pos c0]; exact EqP.now _
  simp only [if_neg c0]
  by_cases c1 : b = 1
  · simp only [if_pos c1]; exact EqP.now _
  simp only [if_neg c1]
  by_cases c2 : b = 2
  · simp only [if_pos c2]; exact EqP.now _
  simp only [if_neg c2]
  by_cases c3 : b = 3
  · simp only [if_pos c3]; exact EqP.now _
  simp only [if_neg c3]; exact EqP.now _
/-- numbers alone changed -/
theorem gNow_n {T : Nat} {X M X' M' : hMem} (n : gNow T X M) (hx : ∀ a, 2 ≤ a → a ≤ 14 → X' a = X a) (hm : ∀ a, 1 ≤ a → a ≤ 8 → M' a = M a) (g5 : gNum (X' 1 5) (M' 0 3) 5) (g6 : gNum (X' 1 6) (M' 0 8) 5) (g7 : gNum (X' 1 7) (M' 0 15) T) : gNow T X' M' := by
  obtain ⟨h1, h2, h3, h4, h5, h6, h7⟩ := n
  refine ⟨?_, ?_, gHats_c h3 (fun i hi => hx _ (by omega) (by omega)) ?_ ?_ ?_ ?_, gCats_c h4 (fun i hi => hx _ (by omega) (by omega)) ?_, g5, g6, g7⟩
  · rw [hx 2 (by omega) (by omega), hm 1 (by omega) (by omega)]; exact h1
  · rw [hx 3 (by omega) (by omega), hx 4 (by omega) (by omega), hm 2 (by omega) (by omega), hm 3 (by omega) (by omega)]; exact h2
  · intro i hi; rw [hm 4 (by omega) (by omega)]
  · intro i hi; rw [hm 5 (by omega) (by omega)]
  · intro i hi; rw [hm 6 (by omega) (by omega)]
  · intro i hi; rw [hm 7 (by omega) (by omega)]
  · intro i hi; rw [hm 8 (by omega) (by omega)]
/-- catchers alone changed -/
theorem gNow_p {T : Nat} {X M X' M' : hMem} (n : gNow T X M) (hx : ∀ a, 1 ≤ a → a ≤ 10 → X' a = X a) (hm : ∀ a, 1 ≤ a → a ≤ 7 → M' a = M a) (h0 : ∀ j, kM0 j → M' 0 j = M 0 j) (g : gCats (fun p => X' (11 + p)) (M' 8)) : gNow T X' M' := by
  obtain ⟨h1, h2, h3, h4, h5, h6, h7⟩ := n
  refine ⟨?_, ?_, gHats_c h3 (fun i hi => hx _ (by omega) (by omega)) ?_ ?_ ?_ ?_, g, ?_, ?_, ?_⟩
  · rw [hx 2 (by omega) (by omega), hm 1 (by omega) (by omega)]; exact h1
  · rw [hx 3 (by omega) (by omega), hx 4 (by omega) (by omega), hm 2 (by omega) (by omega), hm 3 (by omega) (by omega)]; exact h2
  · intro i hi; rw [hm 4 (by omega) (by omega)]
  · intro i hi; rw [hm 5 (by omega) (by omega)]
  · intro i hi; rw [hm 6 (by omega) (by omega)]
  · intro i hi; rw [hm 7 (by omega) (by omega)]
  · rw [hx 1 (by omega) (by omega), h0 3 (by unfold kM0; omega)]; exact h5
  · rw [hx 1 (by omega) (by omega), h0 8 (by unfold kM0; omega)]; exact h6
  · rw [hx 1 (by omega) (by omega), h0 15 (by unfold kM0; omega)]; exact h7
/-- the sets alone changed -/
theorem gNow_s {T : Nat} {X M X' M' : hMem} (n : gNow T X M) (hx : ∀ a, 1 ≤ a → a ≤ 14 → a ≠ 2 → X' a = X a) (hm : ∀ a, 2 ≤ a → a ≤ 8 → M' a = M a) (h0 : ∀ j, kM0 j → M' 0 j = M 0 j) (g : gSets (X' 2) (M' 1)) : gNow T X' M' := by
  obtain ⟨h1, h2, h3, h4, h5, h6, h7⟩ := n
  refine ⟨g, ?_, gHats_c h3 (fun i hi => hx _ (by omega) (by omega) (by omega)) ?_ ?_ ?_ ?_, gCats_c h4 (fun i hi => hx _ (by omega) (by omega) (by omega)) ?_, ?_, ?_, ?_⟩
  · rw [hx 3 (by omega) (by omega) (by omega), hx 4 (by omega) (by omega) (by omega), hm 2 (by omega) (by omega), hm 3 (by omega) (by omega)]; exact h2
  · intro i hi; rw [hm 4 (by omega) (by omega)]
  · intro i hi; rw [hm 5 (by omega) (by omega)]
  · intro i hi; rw [hm 6 (by omega) (by omega)]
  · intro i hi; rw [hm 7 (by omega) (by omega)]
  · intro i hi; rw [hm 8 (by omega) (by omega)]
  · rw [hx 1 (by omega) (by omega) (by omega), h0 3 (by unfold kM0; omega)]; exact h5
  · rw [hx 1 (by omega) (by omega) (by omega), h0 8 (by unfold kM0; omega)]; exact h6
  · rw [hx 1 (by omega) (by omega) (by omega), h0 15 (by unfold kM0; omega)]; exact h7
theorem eq_force {X M : hMem} (R : RR X M) (a : Int32) : EqC (fX9_force a X) (fX10_force a M) := by
  obtain ⟨T, t1, t2, t3, t4, g⟩ := R.texts
  unfold fX9_force fX10_force
  rw [t3, t4, if_lt _ _ _ _ (by omega), me_cnt a T M (by omega), b01]
  by_cases ha : h_ib a T
  rotate_left
  · rw [if_neg ha, if_neg ha]; exact EqC.now R
  rw [if_pos ha, if_pos ha]
  refine EqC.val g.1 (R.now ?_ ?_ ?_ ?_ ?_)
  · intro q _ h2; simp (disch := omega) only [m_row]
  · simp (disch := omega) only [m_row]
  · intro q _ h2; simp (disch := omega) only [m_row]
  · intro j hj _ _ h15; simp (disch := omega) only [m_own, u_n]
  · intro T' h6 e1 _ n
    have eT : T' = T := (nI_eq (by omega) (by omega)).mp (e1.symm.trans t3)
    subst eT
    refine gNow_n n ?_ ?_ ?_ ?_ ?_
    · intro q _ h2; simp (disch := omega) only [m_row]
    · intro q _ h2; simp (disch := omega) only [m_row]
    · simp (disch := omega) only [m_own, u_n]; exact n.2.2.2.2.1
    · simp (disch := omega) only [m_own, u_n]; exact n.2.2.2.2.2.1
    · simp (disch := omega) only [m_own, u_s]; exact ⟨rfl, ha⟩
theorem eqOp {X M : hMem} (R : RR X M) {α : Type} (a : Int32) (f g : Option α) : (if fX9_isOpen a X = 0 then f else g) = (if h_ib a 32 ∧ bt (M 1 0) a.toNatClampNeg = false then g else f) := by
  rw [xe_open, R.setsE (k := 0) (by omega)]
  by_cases h : h_ib a 32
  · rw [if_pos h, b10]
    by_cases hb : bt (M 1 0) a.toNatClampNeg = true
    · rw [if_pos hb, if_neg (show ¬ (h_ib a 32 ∧ bt (M 1 0) a.toNatClampNeg = false) from fun q => by rw [hb] at q; cases q.2)]
    · rw [if_neg hb, if_pos (show h_ib a 32 ∧ bt (M 1 0) a.toNatClampNeg = false from ⟨h, eq_false_of_ne_true hb⟩)]
  · rw [if_neg h, if_pos rfl, if_neg (show ¬ (h_ib a 32 ∧ bt (M 1 0) a.toNatClampNeg = false) from fun q => h q.1)]
theorem emOp {M : hMem} {α : Type} (a : Int32) (f g : Option α) : ((fX10_isFree a M).bind fun q => if q = 0 then f else g) = (if h_ib a 32 ∧ bt (M 1 0) a.toNatClampNeg = false then g else f) := by
  rw [me_open, Option.bind_some]
  by_cases h : h_ib a 32
  · rw [if_pos h, b10]
    by_cases hb : bt (M 1 0) a.toNatClampNeg = true
    · rw [if_pos hb, if_neg (show ¬ (h_ib a 32 ∧ bt (M 1 0) a.toNatClampNeg = false) from fun q => by rw [hb] at q; cases q.2)]
    · rw [if_neg hb, if_pos (show h_ib a 32 ∧ bt (M 1 0) a.toNatClampNeg = false from ⟨h, eq_false_of_ne_true hb⟩)]
  · rw [if_neg h, if_pos rfl, if_neg (show ¬ (h_ib a 32 ∧ bt (M 1 0) a.toNatClampNeg = false) from fun q => h q.1)]
theorem eq_come {X M : hMem} (R : RR X M) (a b c : Int32) : EqC (fX9_come a b c X) (fX10_come a b c M) := by
  obtain ⟨C, hC, hx, hm⟩ := R.cats
  unfold fX9_come fX10_come fX9_come_L87 fX10_come_L80
  rw [eqOp R, emOp, xe_pace, xe_reach, b01, b01, me_in4, me_in3, b01, b01]
  by_cases ha : h_ib a 32 ∧ bt (M 1 0) a.toNatClampNeg = false
  rotate_left
  · rw [if_neg ha, if_neg ha]; exact EqC.now R
  rw [if_pos ha, if_pos ha]
  by_cases hb : h_ib b 5
  rotate_left
  · rw [if_neg hb, if_neg hb]; exact EqC.now R
  rw [if_pos hb, if_pos hb]
  by_cases hc : h_ib c 4
  rotate_left
  · rw [if_neg hc, if_neg hc]; exact EqC.now R
  rw [if_pos hc, if_pos hc]
  by_cases h4 : C = 4
  · subst h4
    rw [hx, hm, if_neg (by decide), if_pos (show nI 4 = (4 : Int32) from rfl)]; exact EqC.now R
  rw [hx, hm, if_pos (show nI C < (4 : Int32) from nI_lt (b := 4) (by omega) (by decide)), if_neg (show ¬ nI C = (4 : Int32) from nI_neq 4 (by omega) (by omega) h4), if_pos (ib_mk (by omega) (by omega))]
  simp (disch := omega) only [m_row, hx, hm, nI_clamp]
  simp only [show (3 : Int32) = nI 3 from rfl, show (2 : Int32) = nI 2 from rfl, show (1 : Int32) = nI 1 from rfl, pk_mul, nI_add]
  simp (disch := omega) only [nI_clamp, m_own, u_s]
  rw [if_pos (ib_mk (by omega) (by omega)), if_pos (ib_mk (by omega) (by omega)), if_pos (ib_mk (by omega) (by omega))]
  refine EqC.now (R.now ?_ ?_ ?_ ?_ ?_)
  · intro q _ h2; simp (disch := omega) only [m_row]
  · simp (disch := omega) only [m_row]
  · intro q _ h2; simp (disch := omega) only [m_row]
  · intro j hj _ h8 _; simp (disch := omega) only [m_own, m_row, u_n]
  · intro T _ _ _ n
    obtain ⟨n1, n2, n3, n4, n5, n6, n7⟩ := n
    refine ⟨?_, ?_, gHats_c n3 ?_ ?_ ?_ ?_ ?_, ?_, ?_, ?_, ?_⟩
    · simp (disch := omega) only [m_row]; exact n1
    · simp (disch := omega) only [m_row]; exact n2
    · intro i hi; simp (disch := omega) only [m_row]
    · intro i hi; simp (disch := omega) only [m_row]
    · intro i hi; simp (disch := omega) only [m_row]
    · intro i hi; simp (disch := omega) only [m_row]
    · intro i hi; simp (disch := omega) only [m_row]
    · intro i hi
      simp (disch := omega) only [m_row, m_own]
      by_cases e : i = C
      · subst e
        simp (disch := omega) only [m_row, m_own, u_n, u_s]
        exact ⟨trivial, trivial, trivial, ha.1, hb, hc⟩
      · simp (disch := omega) only [m_row, u_n]
        exact n4 i hi
    · simp (disch := omega) only [m_own, m_row, u_n]; exact n5
    · simp (disch := omega) only [m_own, m_row, u_s]; exact ⟨rfl, ib_mk (by omega) (by omega)⟩
    · simp (disch := omega) only [m_own, m_row, u_n]; exact n7
theorem if_div {α : Type} (a : Int32) (n d : Nat) (A B : α) (hn : n < 2 ^ 31) (hd : 0 < d) (hd2 : d < 2 ^ 31) : (if a < 0 then A else if nI n ≤ a / nI d then A else B) = if h_ib a (n * d) then B else A := by
  by_cases c1 : a < 0
  · rw [if_pos c1, if_neg (fun h => by have := ((ib_int _ _).mp h).1; have := (lt0_int a).mp c1; omega)]
  rw [if_neg c1]
  have h0 := (lt0_int a)
  have hb := a.toInt_lt
  have hc1 : ¬ a.toInt < 0 := fun h => c1 (h0.mpr h)
  obtain ⟨j, hj⟩ : ∃ j : Nat, j = a.toInt.toNat := ⟨_, rfl⟩
  have e : a = nI j := by
    apply Int32.toInt_inj.mp
    rw [nI_toInt (by omega)]; omega
  have hj2 : j < 2 ^ 31 := by omega
  rw [e, pk_div hj2 hd hd2]
  have hq : j / d < 2 ^ 31 := Nat.lt_of_le_of_lt (Nat.div_le_self _ _) hj2
  by_cases h : j < n * d
  · rw [if_pos ((ib_iff hj2).mpr h), if_neg (nI_ge ((Nat.div_lt_iff_lt_mul hd).mpr h) hn)]
  · rw [if_neg (fun q => h ((ib_iff hj2).mp q)), if_pos (nI_le ((Nat.le_div_iff_mul_le hd).mpr (by omega)) hq)]
theorem eq_hat {X M : hMem} (R : RR X M) (a b c : Int32) : EqC (fX9_hat a b c X) (fX10_hat a b c M) := by
  obtain ⟨H, hH, hx, hm⟩ := R.hats
  unfold fX9_hat fX10_hat fX9_hat_L90 fX10_hat_L77
  rw [eqOp R, emOp, xe_lie, b01, show fX10_in a 0 59 M = if h_ib a 60 then 1 else 0 from me_in a 59 M (by decide), b01, me_in2, b01, show (if a < 0 then some ((-2 : Int32), X) else if 6 ≤ a / 10 then some ((-2 : Int32), X) else _) = _ from if_div a 6 10 _ _ (by decide) (by decide) (by decide)]
  by_cases ha : h_ib a 60
  rotate_left
  · rw [if_neg ha, if_neg ha]; exact EqC.now R
  rw [if_pos ha, if_pos ha]
  by_cases hb : h_ib b 32 ∧ bt (M 1 0) b.toNatClampNeg = false
  rotate_left
  · rw [if_neg hb, if_neg hb]; exact EqC.now R
  rw [if_pos hb, if_pos hb]
  by_cases hc : h_ib c 3
  rotate_left
  · rw [if_neg hc, if_neg hc]; exact EqC.now R
  rw [if_pos hc, if_pos hc]
  by_cases h4 : H = 4
  · subst h4
    rw [hx, hm, if_neg (by decide), if_pos (show nI 4 = (4 : Int32) from rfl)]; exact EqC.now R
  obtain ⟨j, hj, hj2, rfl⟩ := ib_ex ha
  have ed : nI j / 10 = nI (j / 10) := pk_div (d := 10) hj2 (by decide) (by decide)
  have er : h_rem (nI j) 10 = nI (j % 10) := n_rem (d := 10) hj2 (by decide) (by decide)
  rw [hx, hm, if_pos (show nI H < (4 : Int32) from nI_lt (b := 4) (by omega) (by decide)), if_neg (show ¬ nI H = (4 : Int32) from nI_neq 4 (by omega) (by omega) h4), if_pos (ib_mk (by omega) (by omega))]
  simp (disch := omega) only [m_row, hx, hm, nI_clamp, ed, er]
  simp (disch := omega) only [m_own, u_s, nI_1]
  simp only [if_pos (show h_ib (nI H) 4 from ib_mk (by omega) (by omega))]
  refine EqC.now (R.now ?_ ?_ ?_ ?_ ?_)
  · intro q _ h2; simp (disch := omega) only [m_row]
  · simp (disch := omega) only [m_row]
  · intro q _ h2; simp (disch := omega) only [m_row]
  · intro j hj _ h8 _; simp (disch := omega) only [m_own, m_row, u_n]
  · intro T _ _ _ n
    obtain ⟨n1, n2, n3, n4, n5, n6, n7⟩ := n
    refine ⟨?_, ?_, ?_, gCats_c n4 ?_ ?_, ?_, ?_, ?_⟩
    · simp (disch := omega) only [m_row]; exact n1
    · simp (disch := omega) only [m_row]; exact n2
    · intro i hi
      simp (disch := omega) only [m_row, m_own]
      by_cases e : i = H
      · subst e
        simp (disch := omega) only [m_row, m_own, u_n, u_s]
        exact ⟨trivial, trivial, rfl, ib_mk (by omega) (by omega), ib_mk (by omega) (by omega), hb.1, hc⟩
      · simp (disch := omega) only [m_row, u_n]
        exact n3 i hi
    · intro i hi; simp (disch := omega) only [m_row]
    · intro i hi; simp (disch := omega) only [m_row]
    · simp (disch := omega) only [m_own, m_row, u_s]; exact ⟨rfl, ib_mk (by omega) (by omega)⟩
    · simp (disch := omega) only [m_own, m_row, u_n]; exact n6
    · simp (disch := omega) only [m_own, m_row, u_n]; exact n7
theorem eq_set {X M : hMem} (R : RR X M) (a b c : Int32) : EqC (fX9_set a b c X) (fX10_set a b c M) := by
  obtain ⟨H, hH, hx, hm⟩ := R.hats
  unfold fX9_set fX10_set fX9_set_L68 fX10_set_L47 fX10_set_L66 fX10_set_L87
  rw [xe_hat hx (by omega), me_hat hm (by omega), b01, b01, eqOp R, emOp, me_in1, b01, me_in2, b01, xe_lie, b01]
  by_cases ha : h_ib a H
  rotate_left
  · rw [if_neg ha, if_neg ha]; exact EqC.now R
  rw [if_pos ha, if_pos ha]
  obtain ⟨h, h1, h2, rfl⟩ := ib_ex ha
  obtain ⟨q, l, hq, hl, e6, e7, e2⟩ := R.sqE (h := h) (by omega)
  simp only [nI_clamp h2, e6, e7, e2, if_pos (show h_ib (nI h) 4 from ib_mk (by omega) (by omega)), x_sqS (s := (q, l)) hq hl, x_lieS (s := (q, l)) hq hl]
  have fin : ∀ (q' l' : Int32) (X' M' : hMem), h_ib q' 32 → h_ib l' 3 → (∀ a, a ≠ 7 + h → X' a = X a) → X' (7 + h) 0 = X (7 + h) 0 → X' (7 + h) 1 = X (7 + h) 1 → X' (7 + h) 2 = l' * 32 + q' → (∀ a, a ≠ 6 → a ≠ 7 → M' a = M a) → (∀ i, M' 6 i = if i = h then q' else M 6 i) → (∀ i, M' 7 i = if i = h then l' else M 7 i) → RR X' M' := by
    intro q' l' X' M' i1 i2 f1 f2 f3 f4 f5 f6 f7
    refine R.now ?_ ?_ ?_ ?_ ?_
    · intro q _ h2; exact f1 _ (by omega)
    · rw [f1 _ (by omega)]
    · intro q _ h2; exact f5 _ (by omega) (by omega)
    · intro j hj _ _ _; rw [f5 0 (by omega) (by omega)]
    · intro T _ _ _ n
      refine gNow_h n ?_ ?_ ?_ ?_
      · intro q _ _ _; exact f1 _ (by omega)
      · intro q _ _ _; exact f5 _ (by omega) (by omega)
      · intro j hj; rw [f5 0 (by omega) (by omega)]
      · intro i hi
        simp only [f6, f7, f5 4 (by omega) (by omega), f5 5 (by omega) (by omega)]
        obtain ⟨p0, p1, p2, p3, p4, p5, p6⟩ := n.2.2.1 i hi
        by_cases e : i = h
        · subst e
          rw [if_pos rfl, if_pos rfl]
          exact ⟨f2.trans p0, f3.trans p1, f4, p3, p4, i1, i2⟩
        · rw [if_neg e, if_neg e, f1 _ (by omega)]
          exact ⟨p0, p1, p2, p3, p4, p5, p6⟩
  by_cases c0 : b = 0
  · subst c0
    rw [if_pos rfl, if_pos ((ib2 0).mpr (Or.inl rfl)), if_pos rfl]
    simp only [if_neg (show ¬ (0 : Int32) = 1 from by decide), if_true]
    by_cases hc : h_ib c 32 ∧ bt (M 1 0) c.toNatClampNeg = false
    rotate_left
    · rw [if_neg hc, if_neg hc]; exact EqC.now R
    rw [if_pos hc, if_pos hc]
    refine EqC.now (fin c (nI l) _ _ hc.1 (ib_mk hl (by omega)) ?_ ?_ ?_ ?_ ?_ ?_ ?_)
    · intro a ha; simp (disch := omega) only [m_row]
    · simp (disch := omega) only [m_own, u_n]
    · simp (disch := omega) only [m_own, u_n]
    · simp (disch := omega) only [m_own, u_s]; rfl
    · intro a h6 h7; simp (disch := omega) only [m_row]
    · intro i; simp (disch := omega) only [m_row, m_own, u_e]
    · intro i; simp (disch := omega) only [m_row, m_own, u_e, e7]
  · rw [if_neg c0]
    by_cases c1 : b = 1
    · subst c1
      rw [if_pos rfl, if_pos ((ib2 1).mpr (Or.inr rfl)), if_neg c0]
      by_cases hc : h_ib c 3
      rotate_left
      · rw [if_neg hc, if_neg hc]; exact EqC.now R
      rw [if_pos hc, if_pos hc]
      simp only [if_neg c0, if_true]
      refine EqC.now (fin (nI q) c _ _ (ib_mk hq (by omega)) hc ?_ ?_ ?_ ?_ ?_ ?_ ?_)
      · intro a ha; simp (disch := omega) only [m_row]
      · simp (disch := omega) only [m_own, u_n]
      · simp (disch := omega) only [m_own, u_n]
      · simp (disch := omega) only [m_own, u_s]; rfl
      · intro a h6 h7; simp (disch := omega) only [m_row]
      · intro i; simp (disch := omega) only [m_row, m_own, u_e]
      · intro i; simp (disch := omega) only [m_row, m_own, u_e]
    · rw [if_neg c1, if_neg (fun h => ((ib2 b).mp h).elim c0 c1)]; exact EqC.now R
theorem ib3 (a : Int32) : h_ib a 3 ↔ a = 0 ∨ a = 1 ∨ a = 2 := by
  constructor
  · intro h
    obtain ⟨j, h1, h2, rfl⟩ := ib_ex h
    rcases (by omega : j = 0 ∨ j = 1 ∨ j = 2) with rfl | rfl | rfl
    · exact Or.inl rfl
    · exact Or.inr (Or.inl rfl)
    · exact Or.inr (Or.inr rfl)
  · rintro (rfl | rfl | rfl)
    · exact ib_mk (j := 0) (by omega) (by omega)
    · exact ib_mk (j := 1) (by omega) (by omega)
    · exact ib_mk (j := 2) (by omega) (by omega)
theorem eq_does {X M : hMem} (R : RR X M) (a b c : Int32) : EqC (fX9_does a b c X) (fX10_does a b c M) := by
  obtain ⟨H, hH, hx, hm⟩ := R.cats
  unfold fX9_does fX10_does fX9_does_L54 fX9_does_L82 fX10_does_L49
  rw [xe_cat hx (by omega), me_cat hm (by omega), b01, b01, eqOp R, emOp, me_in2, b01, xe_pace, b01, xe_reach, b01]
  by_cases ha : h_ib a H
  rotate_left
  · rw [if_neg ha, if_neg ha]; exact EqC.now R
  rw [if_pos ha, if_pos ha]
  obtain ⟨p, h1, h2, rfl⟩ := ib_ex ha
  obtain ⟨e0, e1, e2, i0, i1, i2⟩ := R.catE (p := p) (by omega)
  have fin : ∀ (k : Nat) (v : Int32), k < 3 → (k = 0 → h_ib v 32) → (k = 1 → h_ib v 5) → (k = 2 → h_ib v 4) → RR (h_up X (11 + p) k v) (h_up M 8 (3 * p + k) v) := by
    intro k v hk k0 k1 k2
    refine R.now ?_ ?_ ?_ ?_ ?_
    · intro q _ h2; simp (disch := omega) only [m_row]
    · simp (disch := omega) only [m_row]
    · intro q _ h2; simp (disch := omega) only [m_row]
    · intro j hj _ _ _; simp (disch := omega) only [m_row]
    · intro T _ _ _ n
      refine gNow_p n ?_ ?_ ?_ ?_
      · intro q _ h2; simp (disch := omega) only [m_row]
      · intro q _ h2; simp (disch := omega) only [m_row]
      · intro j hj; simp (disch := omega) only [m_row]
      · intro i hi
        obtain ⟨p0, p1, p2, p3, p4, p5⟩ := n.2.2.2.1 i hi
        by_cases e : i = p
        · subst e
          rcases (by omega : k = 0 ∨ k = 1 ∨ k = 2) with rfl | rfl | rfl
          · simp (disch := omega) only [m_own, Nat.add_zero, u_s, u_n]
            exact ⟨trivial, p1, p2, k0 rfl, p4, p5⟩
          · simp (disch := omega) only [m_own, u_s, u_n]
            exact ⟨p0, trivial, p2, p3, k1 rfl, p5⟩
          · simp (disch := omega) only [m_own, u_s, u_n]
            exact ⟨p0, p1, trivial, p3, p4, k2 rfl⟩
        · simp (disch := omega) only [m_row, m_own, u_n]
          exact ⟨p0, p1, p2, p3, p4, p5⟩
  simp only [nI_clamp h2, if_pos (show h_ib (nI p) 4 from ib_mk (by omega) (by omega)), show (3 : Int32) * nI p = nI (3 * p) from pk_mul 3 p]
  by_cases c0 : b = 0
  · subst c0
    rw [if_pos rfl, if_pos ((ib3 0).mpr (Or.inl rfl)), if_pos rfl]
    simp only [if_neg (show ¬ (0 : Int32) = 1 from by decide), if_neg (show ¬ (0 : Int32) = 2 from by decide), show nI (3 * p) + 0 = nI (3 * p + 0) from nI_add (3 * p) 0]
    rw [if_pos (ib_mk (by omega) (by omega)), if_pos (ib_mk (by omega) (by omega)), nI_clamp (by omega)]
    by_cases hc : h_ib c 32 ∧ bt (M 1 0) c.toNatClampNeg = false
    rotate_left
    · rw [if_neg hc, if_neg hc]; exact EqC.now R
    rw [if_pos hc, if_pos hc]
    exact EqC.val e0 (fin 0 c (by omega) (fun _ => hc.1) (by omega) (by omega))
  · rw [if_neg c0]
    by_cases c1 : b = 1
    · subst c1
      rw [if_pos rfl, if_pos ((ib3 1).mpr (Or.inr (Or.inl rfl))), if_neg c0, show (5 : Int32) - 1 = 4 from by decide, me_in4, b01]
      simp only [if_neg (show ¬ (1 : Int32) = 2 from by decide), show nI (3 * p) + 1 = nI (3 * p + 1) from nI_add (3 * p) 1]
      rw [if_pos (ib_mk (by omega) (by omega)), if_pos (ib_mk (by omega) (by omega)), nI_clamp (by omega)]
      by_cases hc : h_ib c 5
      rotate_left
      · rw [if_neg hc, if_neg hc]; exact EqC.now R
      rw [if_pos hc, if_pos hc]
      exact EqC.val e1 (fin 1 c (by omega) (by omega) (fun _ => hc) (by omega))
    · rw [if_neg c1]
      by_cases c2 : b = 2
      · subst c2
        rw [if_pos rfl, if_pos ((ib3 2).mpr (Or.inr (Or.inr rfl))), if_neg c0, show (5 : Int32) - 2 = 3 from by decide, me_in3, b01]
        simp only [show nI (3 * p) + 2 = nI (3 * p + 2) from nI_add (3 * p) 2]
        rw [if_pos (ib_mk (by omega) (by omega)), if_pos (ib_mk (by omega) (by omega)), nI_clamp (by omega)]
        by_cases hc : h_ib c 4
        rotate_left
        · rw [if_neg hc, if_neg hc]; exact EqC.now R
        rw [if_pos hc, if_pos hc]
        exact EqC.val e2 (fin 2 c (by omega) (by omega) (by omega) (fun _ => hc))
      · rw [if_neg c2, if_neg (fun h => ((ib3 b).mp h).elim c0 (fun h => h.elim c1 c2))]; exact EqC.now R
def hatIn (H : Nat) (M : hMem) (c : Nat) : Prop := ∃ h, h < H ∧ M 6 h = nI c
def catIn (C : Nat) (M : hMem) (c : Nat) : Prop := ∃ p, p < C ∧ M 8 (3 * p) = nI c
theorem x_hatSq {X M : hMem} (R : RR X M) {H : Nat} (hH : H ≤ 4) (hx : X 1 5 = nI H) : ∃ S, fX7_hatSquares X = some S ∧ ∀ c, c < 32 → (bt S c = true ↔ hatIn H M c) := by
  unfold fX7_hatSquares
  refine lp_u0 (body := fX7_hatSquares_L4 X) H (fun i s => s.2 = nI i ∧ ∀ c, c < 32 → (bt s.1 c = true ↔ hatIn i M c)) _ (0, 0) ⟨rfl, fun c hc => ?_⟩ (by omega) ?_ ?_
  · show bt 0 c = true ↔ _
    rw [b_0]
    exact ⟨fun h => (by cases h), fun ⟨h, h1, _⟩ => absurd h1 (Nat.not_lt_zero _)⟩
  · rintro k ⟨S, i⟩ ⟨rfl, h⟩
    unfold fX7_hatSquares_L4
    dsimp only
    rw [hx, if_pos (nI_le (Nat.le_refl _) (by omega))]
    exact ⟨_, rfl, h⟩
  · rintro k i ⟨S, i'⟩ hi ⟨e, h⟩ hk
    dsimp only at e h
    subst e
    obtain ⟨q, l, hq, hl, e6, e7, e2⟩ := R.sqE (h := i) (by omega)
    unfold fX7_hatSquares_L4
    dsimp only
    rw [hx, if_neg (nI_ge hi (by omega)), if_pos (ib_mk (by omega) (by omega)), nI_clamp (by omega), e2, x_sqS (s := (q, l)) hq hl, nI_1]
    refine hk _ ⟨rfl, fun c hc => ?_⟩
    show bt (S ||| 1 <<< (nI q &&& 31)) c = true ↔ _
    rw [b_set _ hq hc, Bool.or_eq_true, h c hc, decide_eq_true_eq]
    constructor
    · rintro (⟨j, j1, j2⟩ | rfl)
      · exact ⟨j, by omega, j2⟩
      · exact ⟨i, by omega, e6⟩
    · rintro ⟨j, j1, j2⟩
      by_cases e : j = i
      · subst e
        right
        exact ((nI_eq (by omega) (by omega)).mp (j2.symm.trans e6))
      · left
        exact ⟨j, by omega, j2⟩
theorem x_catSq {X M : hMem} (R : RR X M) {H : Nat} (hH : H ≤ 4) (hx : X 1 6 = nI H) : ∃ S, fX7_catcherSquares X = some S ∧ ∀ c, c < 32 → (bt S c = true ↔ catIn H M c) := by
  unfold fX7_catcherSquares
  refine lp_u0 (body := fX7_catcherSquares_L4 X) H (fun i s => s.2 = nI i ∧ ∀ c, c < 32 → (bt s.1 c = true ↔ catIn i M c)) _ (0, 0) ⟨rfl, fun c hc => ?_⟩ (by omega) ?_ ?_
  · show bt 0 c = true ↔ _
    rw [b_0]
    exact ⟨fun h => (by cases h), fun ⟨h, h1, _⟩ => absurd h1 (Nat.not_lt_zero _)⟩
  · rintro k ⟨S, i⟩ ⟨rfl, h⟩
    unfold fX7_catcherSquares_L4
    dsimp only
    rw [hx, if_pos (nI_le (Nat.le_refl _) (by omega))]
    exact ⟨_, rfl, h⟩
  · rintro k i ⟨S, i'⟩ hi ⟨e, h⟩ hk
    dsimp only at e h
    subst e
    obtain ⟨e0, -, -, i0, -, -⟩ := R.catE (p := i) (by omega)
    obtain ⟨q, hq, hq2, e6⟩ := ib_ex i0
    unfold fX7_catcherSquares_L4
    dsimp only
    rw [hx, if_neg (nI_ge hi (by omega)), if_pos (ib_mk (by omega) (by omega)), nI_clamp (by omega), e0, e6, nI_1]
    refine hk _ ⟨rfl, fun c hc => ?_⟩
    show bt (S ||| 1 <<< (nI q &&& 31)) c = true ↔ _
    rw [b_set _ hq hc, Bool.or_eq_true, h c hc, decide_eq_true_eq]
    constructor
    · rintro (⟨j, j1, j2⟩ | rfl)
      · exact ⟨j, by omega, j2⟩
      · exact ⟨i, by omega, e6⟩
    · rintro ⟨j, j1, j2⟩
      by_cases e : j = i
      · subst e
        right
        exact ((nI_eq (by omega) (by omega)).mp (j2.symm.trans e6))
      · left
        exact ⟨j, by omega, j2⟩
theorem m_anyIn {X M : hMem} (R : RR X M) {H C c : Nat} (hH : H ≤ 4) (hC : C ≤ 4) (hm : M 0 3 = nI H) (cm : M 0 8 = nI C) (hc : c < 32) : ∃ r, fX10_isAnyIn (nI c) M = some r ∧ ((r = 1 ∧ (hatIn H M c ∨ catIn C M c)) ∨ (r = 0 ∧ ¬ (hatIn H M c ∨ catIn C M c))) := by
  unfold fX10_isAnyIn
  refine lp_u0 (body := fX10_isAnyIn_L2 (nI c) M) 4 (fun i s => s = nI i ∧ ∀ j, j < i → ¬ (j < H ∧ M 6 j = nI c) ∧ ¬ (j < C ∧ M 8 (3 * j) = nI c)) _ 0 ⟨rfl, fun j hj => absurd hj (Nat.not_lt_zero _)⟩ (by omega) ?_ ?_
  · rintro k s ⟨rfl, h⟩
    unfold fX10_isAnyIn_L2
    rw [if_pos (show (4 : Int32) ≤ nI 4 from by decide)]
    refine ⟨0, rfl, Or.inr ⟨rfl, ?_⟩⟩
    rintro (⟨j, j1, j2⟩ | ⟨j, j1, j2⟩)
    · exact (h j (by omega)).1 ⟨j1, j2⟩
    · exact (h j (by omega)).2 ⟨j1, j2⟩
  · rintro k i s hi ⟨rfl, h⟩ hk
    have cats : ¬ (i < H ∧ M 6 i = nI c) → ∃ r, fX10_isAnyIn_L25 k (nI c) (nI i) M = some r ∧ ((r = 1 ∧ (hatIn H M c ∨ catIn C M c)) ∨ (r = 0 ∧ ¬ (hatIn H M c ∨ catIn C M c))) := by
      intro nh
      have go : ¬ (i < C ∧ M 8 (3 * i) = nI c) → ∃ r, k (nI i + 1) = some r ∧ ((r = 1 ∧ (hatIn H M c ∨ catIn C M c)) ∨ (r = 0 ∧ ¬ (hatIn H M c ∨ catIn C M c))) := by
        intro nc
        rw [nI_1]
        refine hk _ ⟨rfl, fun j hj => ?_⟩
        by_cases e : j = i
        · subst e; exact ⟨nh, nc⟩
        · exact h j (by omega)
      unfold fX10_isAnyIn_L25
      rw [cm]
      by_cases hiC : C ≤ i
      · rw [if_pos (nI_le hiC (by omega))]
        exact go (by omega)
      · rw [if_neg (nI_ge (by omega) (by omega)), show (3 : Int32) * nI i = nI (3 * i) from pk_mul 3 i, if_pos (ib_mk (by omega) (by omega)), nI_clamp (by omega)]
        by_cases e : M 8 (3 * i) = nI c
        · rw [if_pos e]
          exact ⟨1, rfl, Or.inl ⟨rfl, Or.inr ⟨i, by omega, e⟩⟩⟩
        · rw [if_neg e]
          exact go (fun q => e q.2)
    unfold fX10_isAnyIn_L2
    rw [if_neg (show ¬ (4 : Int32) ≤ nI i from nI_ge (b := 4) hi (by decide)), hm]
    by_cases hiH : H ≤ i
    · rw [if_pos (nI_le hiH (by omega))]
      exact cats (by omega)
    · rw [if_neg (nI_ge (by omega) (by omega)), if_pos (ib_mk (by omega) (by omega)), nI_clamp (by omega)]
      by_cases e : M 6 i = nI c
      · rw [if_pos e]
        exact ⟨1, rfl, Or.inl ⟨rfl, Or.inl ⟨i, by omega, e⟩⟩⟩
      · rw [if_neg e]
        exact cats (fun q => e q.2)
/-- the walls' change on both sides -/
theorem set_1 (S : Int32) {c : Nat} (hc : c < 32) : (S &&& (((1 : Int32) <<< (nI c &&& 31)) ^^^ (-1))) ||| ((1 : Int32) <<< (nI c &&& 31)) = S ||| ((1 : Int32) <<< (nI c &&& 31)) := by
  apply b_ext
  intro i hi
  rw [b_or, b_or, b_clr S hc hi, b_pow hc hi]
  cases bt S i <;> cases decide (i = c) <;> rfl
theorem set_0 (S : Int32) {c : Nat} (hc : c < 32) : (S &&& (((1 : Int32) <<< (nI c &&& 31)) ^^^ (-1))) ||| ((0 : Int32) <<< (nI c &&& 31)) = S &&& (((1 : Int32) <<< (nI c &&& 31)) ^^^ (-1)) := by
  apply b_ext
  intro i hi
  rw [b_or, b_clr S hc hi, b_shl c hc 0 hi, b_0, Bool.and_false, Bool.or_false]
theorem eq_street64 {X M : hMem} (R : RR X M) {k c v : Nat} (hk : k < 3) (hc : c < 32) (hv : v < 2) : EqC (fX9_street_L64 (nI k) (nI c) (nI v) X) (fX10_street_L50 (nI k) (nI c) (nI v) M) := by
  have fin : ∀ s, RR (h_up X 2 k s) (h_up M 1 k s) := by
    intro s
    refine R.now ?_ ?_ ?_ ?_ ?_
    · intro q _ h2; simp (disch := omega) only [m_row]
    · simp (disch := omega) only [m_row]
    · intro q _ h2; simp (disch := omega) only [m_row]
    · intro j hj _ _ _; simp (disch := omega) only [m_row]
    · intro T _ _ _ n
      refine gNow_s n ?_ ?_ ?_ ?_
      · intro q _ h2 _; simp (disch := omega) only [m_row]
      · intro q _ h2; simp (disch := omega) only [m_row]
      · intro j hj; simp (disch := omega) only [m_row]
      · intro i hi
        simp only [m_own, u_e, n.1 i hi]
  unfold fX9_street_L64 fX10_street_L50 fX10_street_L64
  have i3 : h_ib (nI k) 3 := ib_mk hk (by omega)
  rw [me_has hk hc, Option.bind_some, b01]
  simp only [if_pos i3, nI_clamp (show k < 2 ^ 31 by omega), bit_u _ hc, R.setsE hk]
  rcases (by omega : v = 0 ∨ v = 1) with rfl | rfl
  · simp only [show nI 0 = (0 : Int32) from rfl, if_neg (show ¬ (0 : Int32) = 1 from by decide), set_0 _ hc]
    split
    · exact EqC.now (fin _)
    · exact EqC.now (fin _)
  · simp only [show nI 1 = (1 : Int32) from rfl, if_true, set_1 _ hc]
    split
    · exact EqC.now (fin _)
    · exact EqC.now (fin _)
theorem eq_street {X M : hMem} (R : RR X M) (a b c : Int32) : EqC (fX9_street a b c X) (fX10_street a b c M) := by
  obtain ⟨H, hH, hx, hm⟩ := R.hats
  obtain ⟨C, hC, cx, cm⟩ := R.cats
  unfold fX9_street fX10_street
  rw [q_lt3, me_in2, b01, xe_sq, me_sq, b01, b01, me_in1, b01, q_le1]
  by_cases ha : h_ib a 3
  rotate_left
  · rw [if_neg ha, if_neg ha]; exact EqC.now R
  rw [if_pos ha, if_pos ha]
  by_cases hb : h_ib b 32
  rotate_left
  · rw [if_neg hb, if_neg hb]; exact EqC.now R
  rw [if_pos hb, if_pos hb]
  by_cases hc : h_ib c 2
  rotate_left
  · rw [if_neg hc, if_neg hc]; exact EqC.now R
  rw [if_pos hc, if_pos hc]
  obtain ⟨k, hk, hk2, rfl⟩ := ib_ex ha
  obtain ⟨q, hq, hq2, rfl⟩ := ib_ex hb
  obtain ⟨v, hv, hv2, rfl⟩ := ib_ex hc
  have main := eq_street64 R hk hq hv
  by_cases c0 : nI k = 0
  rotate_left
  · rw [if_neg c0, if_neg c0]; exact main
  rw [if_pos c0, if_pos c0]
  by_cases c1 : nI v = 1
  rotate_left
  · rw [if_neg c1, if_neg c1]; exact main
  rw [if_pos c1, if_pos c1]
  obtain ⟨S1, s1, s2⟩ := x_hatSq R hH hx
  obtain ⟨S2, s3, s4⟩ := x_catSq R hC cx
  obtain ⟨r, r1, r2⟩ := m_anyIn R hH hC hm cm hq
  rw [s1, Option.bind_some, s3, Option.bind_some, r1, Option.bind_some, bit_u _ hq, b01, b_or]
  rcases r2 with ⟨rfl, r3⟩ | ⟨rfl, r3⟩
  · rw [if_pos (by rw [Bool.or_eq_true, s2 q hq, s4 q hq]; exact r3), if_neg (by decide)]; exact EqC.now R
  · rw [if_neg (by rw [Bool.or_eq_true, s2 q hq, s4 q hq]; exact r3), if_pos rfl]; exact main
end
section
/-! FEED, TAKEN, ASKS, IMAGE, BACK -/
theorem RR.re {X M X' M' : hMem} (R : RR X M) (e4 : X' 0 4 = X 0 4) (e14 : M' 0 14 = M 0 14) (hn : ∀ T, gNow T X M → gKept T X M → gNow T X' M') (hk : ∀ T, gNow T X M → gKept T X M → gKept T X' M') (hf : X' 0 2 = M' 0 16) (h39 : M' 0 39 = 0) (tp : gTape X' M') (sh : gSheets X' M') (tx : ∀ T, T ≤ 6 → gTexts T X M → gTexts T X' M') (wd : M' 17 = M 17) : RR X' M' := by
  obtain ⟨T, t1, t2, t3, t4, n, k, f1, f2, tp', sh', tx', wd'⟩ := R
  exact ⟨T, t1, t2, e4.trans t3, e14.trans t4, hn T n k, hk T n k, hf, h39, tp, sh, tx T t2 tx', by rw [wd]; exact wd'⟩
theorem RR.flag {X M : hMem} (R : RR X M) : X 0 2 = M 0 16 := by
  obtain ⟨T, t1, t2, t3, t4, n, k, f1, f2, tp', sh', tx', wd'⟩ := R
  exact f1
theorem RR.tapeC {X M X' M' : hMem} (R : RR X M) (hx : ∀ a, kX a → a ≠ 31 → X' a = X a) (hm : ∀ a, kM a → a ≠ 9 → M' a = M a) (hm0 : ∀ j, kM0 j → j ≠ 11 → M' 0 j = M 0 j) (g : gTape X' M') : RR X' M' := by
  refine R.re ?_ ?_ (fun T n k => gNow_n n ?_ ?_ ?_ ?_ ?_) (fun T n k => gKept_c k ?_ ?_ ?_) ?_ ?_ g (gSheets_c R.shs ?_ ?_) (fun T h6 tx => gTexts_c tx ?_ ?_ ?_ h6) ?_
  · rw [hx 0 (by unfold kX; omega) (by omega)]
  · exact hm0 14 (by unfold kM0; omega) (by omega)
  · exact fun a h1 h2 => hx a (by unfold kX; omega) (by omega)
  · exact fun a h1 h2 => hm a (by unfold kM; omega) (by omega)
  · rw [hx 1 (by unfold kX; omega) (by omega), hm0 3 (by unfold kM0; omega) (by omega)]; exact n.2.2.2.2.1
  · rw [hx 1 (by unfold kX; omega) (by omega), hm0 8 (by unfold kM0; omega) (by omega)]; exact n.2.2.2.2.2.1
  · rw [hx 1 (by unfold kX; omega) (by omega), hm0 15 (by unfold kM0; omega) (by omega)]; exact n.2.2.2.2.2.2
  · exact fun a h1 h2 => hx a (by unfold kX; omega) (by omega)
  · exact hm 12 (by unfold kM; omega) (by omega)
  · exact fun j h1 h2 => hm0 j (by unfold kM0; omega) (by omega)
  · rw [hx 0 (by unfold kX; omega) (by omega), hm0 16 (by unfold kM0; omega) (by omega)]; exact R.flag
  · rw [hm0 39 (by unfold kM0; omega) (by omega)]; exact R.hold
  · exact fun a h1 => hx a (by unfold kX; omega) (by omega)
  · exact fun a h1 h2 => hm a (by unfold kM; omega) (by omega)
  · exact fun a h1 h2 h3 => hx a (by unfold kX; omega) (by omega)
  · exact hm 10 (by unfold kM; omega) (by omega)
  · exact hm 11 (by unfold kM; omega) (by omega)
  · exact hm 17 (by unfold kM; omega) (by omega)
theorem RR.putT {X M : hMem} (R : RR X M) {n : Nat} (hn : n < 160) (hx : X 30 0 = nI n) {v : Int32} (hv : h_ib v 256) : RR (h_up (h_up X 31 n v) 30 0 (nI (n + 1))) (h_up (h_up M 9 n v) 0 11 (nI (n + 1))) := by
  refine R.tapeC ?_ ?_ ?_ ?_
  · intro a h1 h2; unfold kX at h1; simp (disch := omega) only [m_row]
  · intro a h1 h2; unfold kM at h1; simp (disch := omega) only [m_row]
  · intro j h1 h2; simp (disch := omega) only [m_own, m_row, u_n]
  · refine ⟨?_, fun i hi => ?_⟩
    · simp (disch := omega) only [m_own, u_s]
      exact ⟨rfl, ib_mk (by omega) (by omega)⟩
    · simp (disch := omega) only [m_row, m_own, u_e]
      by_cases e : i = n
      · simp only [if_pos e]; exact ⟨trivial, hv⟩
      · simp only [if_neg e]; exact R.tape.2 i hi
theorem eq_feed {X M : hMem} (R : RR X M) (a b c d e f : Int32) : EqC (fX9_feed a b c d e f X) (fX10_feed a b c d e f M) := by
  obtain ⟨g1, g2⟩ := R.tape.1
  obtain ⟨n, hn, hn2, en⟩ := ib_ex g2
  unfold fX9_feed fX10_feed
  rw [show fX10_in a 1 5 M = if a < 1 then 0 else if 5 < a then 0 else 1 from rfl]
  simp only [xe_byte, me_byte, b01]
  by_cases c1 : a < 1
  · rw [if_pos c1, if_pos c1, if_pos rfl]; exact EqC.now R
  rw [if_neg c1, if_neg c1]
  by_cases c2 : 5 < a
  · rw [if_pos c2, if_pos c2, if_pos rfl]; exact EqC.now R
  rw [if_neg c2, if_neg c2, if_neg (show ¬ (1 : Int32) = 0 from by decide)]
  by_cases cb : h_ib b 256
  rotate_left
  · rw [if_neg cb, if_neg cb]; exact EqC.now R
  rw [if_pos cb, if_pos cb]
  by_cases cc : h_ib c 256
  rotate_left
  · rw [if_neg cc, if_neg cc]; exact EqC.now R
  rw [if_pos cc, if_pos cc]
  by_cases cd : h_ib d 256
  rotate_left
  · rw [if_neg cd, if_neg cd]; exact EqC.now R
  rw [if_pos cd, if_pos cd]
  by_cases ce : h_ib e 256
  rotate_left
  · rw [if_neg ce, if_neg ce]; exact EqC.now R
  rw [if_pos ce, if_pos ce]
  by_cases cf : h_ib f 256
  rotate_left
  · rw [if_neg cf, if_neg cf]; exact EqC.now R
  rw [if_pos cf, if_pos cf, g1]
  by_cases cs : M 0 11 + a ≤ 160
  rotate_left
  · rw [if_neg cs, if_neg cs]; exact EqC.now R
  rw [if_pos cs, if_pos cs]
  obtain ⟨k, hk, rfl⟩ : ∃ k, k ≤ 5 ∧ a = nI k := by
    have a1 : ¬ a.toInt < 1 := fun h => c1 (by rw [Int32.lt_iff_toInt_lt]; exact h)
    have a2 : ¬ 5 < a.toInt := fun h => c2 (by rw [Int32.lt_iff_toInt_lt]; exact h)
    refine ⟨a.toInt.toNat, by omega, ?_⟩
    apply Int32.toInt_inj.mp
    rw [nI_toInt (by omega)]; omega
  rw [en, nI_add] at cs
  have hsum : n + k ≤ 160 := by
    rcases Nat.lt_or_ge 160 (n + k) with h | h
    · exact absurd cs (nI_ge (b := n + k) (a := 160) h (by omega))
    · exact h
  refine EqC.of (lp20 (body := fX9_feed_L72 (nI k) b c d e f) (body' := fX10_feed_L68 (nI k) b c d e f) k (fun i s s' => ∃ X' M', s = (nI i, X') ∧ s' = (nI i, M') ∧ RR X' M' ∧ X' 30 0 = nI (n + i)) EqQ (0, X) (0, M) ⟨X, M, rfl, rfl, R, g1.trans en⟩ (by omega) ?_ ?_)
  · rintro q q' s s' ⟨X', M', rfl, rfl, R', -⟩
    unfold fX9_feed_L72 fX10_feed_L68
    dsimp only
    rw [if_pos (nI_le (Nat.le_refl _) (by omega)), if_pos (nI_le (Nat.le_refl _) (by omega))]
    exact ⟨_, _, rfl, rfl, R'.tape.1.1, R'⟩
  · rintro q q' i s s' hi ⟨X', M', rfl, rfl, R', hx'⟩ hq
    unfold fX9_feed_L72 fX10_feed_L68
    dsimp only
    rw [if_neg (nI_ge hi (by omega)), if_neg (nI_ge hi (by omega))]
    have hm' : M' 0 11 = nI (n + i) := R'.tape.1.1.symm.trans hx'
    have key : ∀ v, h_ib v 256 → ∃ r r', ((fX5_put v X').bind fun q125 => q (nI i + 1, q125)) = some r ∧ fX10_feed_L125 q' (nI k) b c d e f (nI i) v (M' 0 11) M' = some r' ∧ EqQ r r' := by
      intro v hv
      unfold fX5_put fX10_feed_L125
      rw [hx', hm', if_neg (show ¬ (160 : Int32) ≤ nI (n + i) from nI_ge (b := 160) (by omega) (by decide)), if_pos (ib_mk (by omega) (by decide)), if_pos (ib_mk (by omega) (by decide)), Option.bind_some]
      simp (disch := omega) only [nI_clamp, m_row, hx', hm', nI_1]
      exact hq _ _ ⟨_, _, rfl, rfl, R'.putT (by omega) hx' hv, by simp only [m_own, u_s]; rw [Nat.add_assoc]⟩
    by_cases c0 : nI i = 0
    · rw [if_pos c0, if_pos c0]; exact key b cb
    rw [if_neg c0, if_neg c0]
    by_cases c0 : nI i = 1
    · rw [if_pos c0, if_pos c0]; exact key c cc
    rw [if_neg c0, if_neg c0]
    by_cases c0 : nI i = 2
    · rw [if_pos c0, if_pos c0]; exact key d cd
    rw [if_neg c0, if_neg c0]
    by_cases c0 : nI i = 3
    · rw [if_pos c0, if_pos c0]; exact key e ce
    rw [if_neg c0, if_neg c0]
    exact key f cf
theorem one_under {k p : Nat} (hk : k < 6) (hp : p < 6) (X M : hMem) : fX3_isOne (nI k) (nI p) X = some (fX10_isUnder (nI k) (nI p) M) := by
  have h := of_decide_eq_true (dc2 (N := 6) (K := 6) (p := fun k p => decide (fX3_isOne (nI k) (nI p) hM0 = some (fX10_isUnder (nI k) (nI p) hM0))) (by decide +kernel) hk hp)
  exact h
theorem eq_taken {X M : hMem} (R : RR X M) (a b : Int32) : EqP (fX9_taken a b X) (fX10_taken a b M) := by
  obtain ⟨H, hH, hx, hm⟩ := R.hats
  unfold fX9_taken fX10_taken
  rw [q_le6, q_lt36, show fX10_in b 0 6 M = if h_ib b 7 then 1 else 0 from me_in b 6 M (by decide), show fX10_in a 0 35 M = if h_ib a 36 then 1 else 0 from me_in a 35 M (by decide), b01, b01]
  by_cases hb : h_ib b 7
  rotate_left
  · rw [if_neg hb, if_neg hb]; exact EqP.now _
  rw [if_pos hb, if_pos hb]
  by_cases ha : h_ib a 36
  rotate_left
  · rw [if_neg ha, if_neg ha]; exact EqP.now _
  rw [if_pos ha, if_pos ha]
  obtain ⟨p, hp, hp2, rfl⟩ := ib_ex hb
  obtain ⟨j, hj, hj2, rfl⟩ := ib_ex ha
  by_cases h32 : 32 ≤ j
  · rw [if_pos (show (32 : Int32) ≤ nI j from nI_le (a := 32) h32 hj2), if_pos (show (32 : Int32) ≤ nI j from nI_le (a := 32) h32 hj2), show nI j - 32 = nI (j - 32) from pk_sub (b := 32) h32, xe_hat hx (by omega), b01, hm]
    by_cases hh : j - 32 < H
    rotate_left
    · rw [if_neg (fun h => hh ((ib_iff (by omega)).mp h)), if_neg (nI_nlt (by omega) (by omega))]; exact EqP.now _
    rw [if_pos (ib_mk hh (by omega)), if_pos (nI_lt hh (by omega))]
    by_cases h6 : p = 6
    · subst h6
      rw [if_pos (show nI 6 = (6 : Int32) from rfl), if_pos (show (6 : Int32) ≤ nI 6 from by decide)]; exact EqP.now _
    obtain ⟨k0, -, -, i0, -⟩ := R.hatE (i := j - 32) (by omega)
    obtain ⟨k, hk, hk2, ek⟩ := ib_ex i0
    rw [if_neg (show ¬ nI p = (6 : Int32) from nI_neq 6 (by omega) (by omega) h6), if_neg (show ¬ (6 : Int32) ≤ nI p from nI_ge (b := 6) (by omega) (by decide)), if_pos (ib_mk (by omega) (by omega)), if_pos (ib_mk (by omega) (by omega)), nI_clamp (by omega), k0, ek, one_under hk (by omega) X M, Option.bind_some]
    by_cases hu : fX10_isUnder (nI k) (nI p) M = 0
    · rw [if_pos hu]; exact EqP.now _
    · rw [if_neg hu]; exact EqP.now _
  · rw [if_neg (show ¬ (32 : Int32) ≤ nI j from nI_ge (b := 32) (by omega) (by decide)), if_neg (show ¬ (32 : Int32) ≤ nI j from nI_ge (b := 32) (by omega) (by decide)), bit_u _ (by omega), b01, b_or, R.setsE (k := 1) (by omega), R.setsE (k := 2) (by omega), me_has1 (by omega), Option.bind_some, b01, me_has2 (by omega), Option.bind_some, b01]
    unfold fX10_taken_L55
    rw [me_has1 (by omega), Option.bind_some, b01, bit_u _ (by omega)]
    by_cases h6 : nI p = 6
    · simp only [if_pos h6]
      cases h1 : bt (M 1 1) j <;> cases h2 : bt (M 1 2) j <;> exact EqP.now _
    · simp only [if_neg h6]
      cases h1 : bt (M 1 1) j <;> cases h2 : bt (M 1 2) j <;> exact EqP.now _
end
section
/-! ASKS, IMAGE, BACK -/
theorem iteA {p q : Prop} [Decidable p] [Decidable q] {α : Type} {A B : α} : (if p then (if q then A else B) else B) = if p ∧ q then A else B := by
  by_cases hp : p
  · by_cases hq : q
    · rw [if_pos hp, if_pos hq, if_pos ⟨hp, hq⟩]
    · rw [if_pos hp, if_neg hq, if_neg (fun h => hq h.2)]
  · rw [if_neg hp, if_neg (fun h => hp h.1)]
theorem if_div' {α : Type} (a : Int32) (n d : Nat) (A B : α) (hn : n + 1 < 2 ^ 31) (hd : 0 < d) (hd2 : d < 2 ^ 31) : (if a < 0 then A else if nI n < a / nI d then A else B) = if h_ib a ((n + 1) * d) then B else A := by
  rw [← if_div a (n + 1) d A B hn hd hd2]
  have e : nI n < a / nI d ↔ nI (n + 1) ≤ a / nI d := by
    rw [Int32.lt_iff_toInt_lt, Int32.le_iff_toInt_le, nI_toInt (by omega), nI_toInt (by omega)]
    omega
  simp only [e]
theorem if_sw {α : Type} {x y : Int32} {A B : α} : (if x ≤ y then B else A) = if y < x then A else B := by
  by_cases h : x ≤ y
  · rw [if_pos h, if_neg (fun q => nlt_le.mp q h)]
  · rw [if_neg h, if_pos (nlt_le.mpr h)]
theorem ib_rem {a : Int32} {n n' m : Nat} (hm : m < 2 ^ 31) (h1 : n ≤ n') (h2 : n' ≤ 2 ^ 31) (h : ∀ j, j < n' → j % 10 < m → j < n) : (h_ib a n' ∧ h_rem a 10 < nI m) ↔ (h_ib a n ∧ h_rem a 10 < nI m) := by
  constructor
  · rintro ⟨q1, q2⟩
    refine ⟨?_, q2⟩
    obtain ⟨j, j1, j2, rfl⟩ := ib_ex q1
    rw [show h_rem (nI j) 10 = nI (j % 10) from n_rem (d := 10) j2 (by decide) (by decide)] at q2
    exact ib_mk (h j j1 ((nI_ltI (by omega) hm).mp q2)) (by omega)
  · exact fun ⟨q1, q2⟩ => ⟨ib_mono q1 h1, q2⟩
theorem x_asksC (a b c d e : Int32) (X : hMem) : fX9_asks a b c d e X = if h_ib a 3 ∧ h_ib d 25 ∧ h_ib e 32 ∧ (h_ib b 100 ∧ h_rem b 10 < nI 3) ∧ (h_ib c 100 ∧ h_rem c 10 < nI 6) then (if h_ib (X 1 7) 6 then ((fX8_tell (b / 10) d (fX9_stateOf e (h_rem b 10) (h_up (h_up (h_up X 40 6 (nI (56 + 4 * (X 1 7).toNatClampNeg))) 40 3 (h_rem c 10)) 40 4 (c / 10))) (h_up (h_up (h_up X 40 6 (nI (56 + 4 * (X 1 7).toNatClampNeg))) 40 3 (h_rem c 10)) 40 4 (c / 10))).bind fun q140 => if h_isB hYx (q140 40 6).toNatClampNeg 3 0 = true then ((fX4_says ((q140 40 6).toNatClampNeg) a q140).bind fun q158 => some (q158.1, q158.2)) else none) else none) else some (-1000, X) := by
  unfold fX9_asks
  generalize (if h_ib (X 1 7) 6 then _ else none : Option (Int32 × hMem)) = G
  rw [q_ge3, xe_beh, b01, xe_sq, b01, show ∀ (B : Option (Int32 × hMem)), (if b < 0 then some ((-1000 : Int32), X) else if 9 < b / 10 then some (-1000, X) else B) = if h_ib b 100 then B else some (-1000, X) from fun B => if_div' b 9 10 _ B (by decide) (by decide) (by decide), show ∀ (B : Option (Int32 × hMem)), (if c < 0 then some ((-1000 : Int32), X) else if 9 < c / 10 then some (-1000, X) else B) = if h_ib c 100 then B else some (-1000, X) from fun B => if_div' c 9 10 _ B (by decide) (by decide) (by decide)]
  simp only [iteA, and_assoc]
  rfl
theorem m_asksC (a b c d e : Int32) (M : hMem) : fX10_asks a b c d e M = if h_ib a 3 ∧ h_ib d 25 ∧ h_ib e 32 ∧ (h_ib b 93 ∧ h_rem b 10 < nI 3) ∧ (h_ib c 96 ∧ h_rem c 10 < nI 6) then ((fX10_asksOf a (b / 10) (h_rem b 10) (c / 10) d e (h_rem c 10) M).bind fun q96 => some (q96.1, q96.2)) else some (-1000, M) := by
  unfold fX10_asks fX10_asks_L66
  rw [show ∀ t, fX10_asks_L67 a b c d e t M = if t = 0 then some (-1000, M) else ((fX10_asksOf a (b / 10) (h_rem b 10) (c / 10) d e (h_rem c 10) M).bind fun q96 => some (q96.1, q96.2)) from fun t => rfl, show ∀ t, fX10_asks_L67 a b c d e t M = if t = 0 then some (-1000, M) else ((fX10_asksOf a (b / 10) (h_rem b 10) (c / 10) d e (h_rem c 10) M).bind fun q96 => some (q96.1, q96.2)) from fun t => rfl]
  generalize ((fX10_asksOf a (b / 10) (h_rem b 10) (c / 10) d e (h_rem c 10) M).bind fun q96 => some (q96.1, q96.2) : Option (Int32 × hMem)) = G
  simp only [show (0 : Int32) = 0 from rfl, if_true, if_neg (show ¬ (1 : Int32) = 0 from by decide)]
  rw [me_in2, b01, show fX10_in b 0 92 M = if h_ib b 93 then 1 else 0 from me_in b 92 M (by decide), b01, if_sw, show fX10_in c 0 95 M = if h_ib c 96 then 1 else 0 from me_in c 95 M (by decide), b01, if_sw, me_sec, b01, me_sq, b01]
  simp only [iteA]
  have e : (h_ib a 3 ∧ h_ib b 93 ∧ h_rem b 10 < 3 ∧ h_ib c 96 ∧ h_rem c 10 < 6 ∧ h_ib d 25 ∧ h_ib e 32) ↔ (h_ib a 3 ∧ h_ib d 25 ∧ h_ib e 32 ∧ (h_ib b 93 ∧ h_rem b 10 < nI 3) ∧ (h_ib c 96 ∧ h_rem c 10 < nI 6)) :=
    ⟨fun ⟨a1, a2, a3, a4, a5, a6, a7⟩ => ⟨a1, a6, a7, ⟨a2, a3⟩, a4, a5⟩, fun ⟨a1, a6, a7, ⟨a2, a3⟩, a4, a5⟩ => ⟨a1, a2, a3, a4, a5, a6, a7⟩⟩
  simp only [e]
theorem eq_asks {X M : hMem} (R : RR X M) (a b c d e : Int32) : EqC (fX9_asks a b c d e X) (fX10_asks a b c d e M) := by
  rw [x_asksC, m_asksC]
  have hb := ib_rem (a := b) (n := 93) (n' := 100) (m := 3) (by decide) (by decide) (by decide) (fun j h1 h2 => by omega)
  have hc := ib_rem (a := c) (n := 96) (n' := 100) (m := 6) (by decide) (by decide) (by decide) (fun j h1 h2 => by omega)
  simp only [hb, hc]
  by_cases hall : h_ib a 3 ∧ h_ib d 25 ∧ h_ib e 32 ∧ (h_ib b 93 ∧ h_rem b 10 < nI 3) ∧ (h_ib c 96 ∧ h_rem c 10 < nI 6)
  rotate_left
  · rw [if_neg hall, if_neg hall]; exact EqC.now R
  rw [if_pos hall, if_pos hall]
  obtain ⟨a1, a2, a3, ⟨a4, a5⟩, a6, a7⟩ := hall
  obtain ⟨p, hp, hp2, rfl⟩ := ib_ex a1
  obtain ⟨q, hq, hq2, rfl⟩ := ib_ex a3
  obtain ⟨j, hj, hj2, rfl⟩ := ib_ex a4
  obtain ⟨r, hr, x17, m15, hg⟩ := R.rule
  rw [show h_rem (nI j) 10 = nI (j % 10) from n_rem (d := 10) hj2 (by decide) (by decide)] at a5 ⊢
  have hl : j % 10 < 3 := (nI_ltI (by omega) (by decide)).mp a5
  generalize j % 10 = l at hl ⊢
  obtain ⟨M', m1, m2⟩ := m_asksOf (s := nI j / 10) (l := nI l) (mo := c / 10) (t := d) (q := nI q) (k := h_rem c 10) hr hp m15 hg (fun _ _ => trivial)
  rw [m1, Option.bind_some, x17, if_pos (ib_mk hr (by omega)), nI_clamp (by omega), x_stOf]
  unfold fX8_tell fX8_tell_L44
  rw [Option.bind_some]
  simp only [x_lieOf hq hl, x_sqOf hq hl]
  obtain ⟨Y, hY⟩ : ∃ Y : hMem, Y = h_up (h_up (h_up X 40 6 (nI (56 + 4 * r))) 40 3 (h_rem c 10)) 40 4 (c / 10) := ⟨_, rfl⟩
  rw [← hY]
  have y4 : Y 40 4 = c / 10 := by rw [hY]; simp (disch := omega) only [m_own, u_s, u_n]
  have y3 : Y 40 3 = h_rem c 10 := by rw [hY]; simp (disch := omega) only [m_own, u_s, u_n]
  have y6 : Y 40 6 = nI (56 + 4 * r) := by rw [hY]; simp (disch := omega) only [m_own, u_s, u_n]
  have yr : ∀ a, a ≠ 40 → Y a = X a := fun a h => by rw [hY]; simp (disch := omega) only [m_row]
  clear hY
  simp (disch := omega) only [m_row, y4, y3]
  obtain ⟨Z, hZ⟩ : ∃ Z : hMem, Z = h_up (h_up (h_up (h_up (h_up (h_up Y 48 0 (nI j / 10)) 48 1 (nI l)) 48 2 (c / 10)) 48 3 d) 48 4 (nI q)) 48 5 (h_rem c 10) := ⟨_, rfl⟩
  rw [← hZ]
  have zr : ∀ a, a ≠ 48 → Z a = Y a := fun a h => by rw [hZ]; simp (disch := omega) only [m_row]
  have z48 : ∀ i, i < 6 → Z 48 i = nmS (nI j / 10) (nI l) (c / 10) d (nI q) (h_rem c 10) i := by
    intro i hi
    rw [hZ]
    simp only [m_own, u_e]
    rcases (by omega : i = 0 ∨ i = 1 ∨ i = 2 ∨ i = 3 ∨ i = 4 ∨ i = 5) with rfl | rfl | rfl | rfl | rfl | rfl <;> rfl
  clear hZ
  rw [y6, nI_clamp (by omega), if_pos (h_forall (N := 6) (p := fun T => h_isB hYx (56 + 4 * T) 3 0) (by decide +kernel) hr)]
  obtain ⟨X', s1, s2⟩ := x_says (c := X (57 + 4 * r)) (e := X (58 + 4 * r)) (nm := Z 48) hr hp hg (by rw [zr _ (by omega), yr _ (by omega)]) (by rw [zr _ (by omega), yr _ (by omega)]) rfl
  rw [s1, Option.bind_some]
  refine EqC.val (evX_c hp hg (fun i hi => ?_)) (R.keep ⟨fun a ha => ?_, ?_⟩ ⟨fun a ha => ?_, fun j hj => ?_⟩)
  · rw [z48 i hi, if_pos hi]
  · unfold kX at ha
    show X' a = X a
    rw [s2 a (by omega), zr a (by omega), yr a (by omega)]
  · show X' 30 0 = X 30 0
    rw [s2 30 (by omega), zr 30 (by omega), yr 30 (by omega)]
  · unfold kM at ha
    exact m2 a (by omega) (by omega)
  · rw [m2 0 (by omega) (by omega)]
end
section
/-! IMAGE, BACK -/
theorem img_isB : ∀ d, d = 1 ∨ d = 15 → h_isB hYx d 6 0 = true ∧ (∀ i, i < 4 → h_isB hYx (d + 6 + i) 2 0 = true ∧ h_isB hYx (d + 10 + i) 0 0 = true) := by
  have h1 : ∀ i, i < 4 → (h_isB hYx (1 + 6 + i) 2 0 && h_isB hYx (1 + 10 + i) 0 0) = true := fun i hi => h_forall (N := 4) (p := fun i => h_isB hYx (1 + 6 + i) 2 0 && h_isB hYx (1 + 10 + i) 0 0) (by decide +kernel) hi
  have h2 : ∀ i, i < 4 → (h_isB hYx (15 + 6 + i) 2 0 && h_isB hYx (15 + 10 + i) 0 0) = true := fun i hi => h_forall (N := 4) (p := fun i => h_isB hYx (15 + 6 + i) 2 0 && h_isB hYx (15 + 10 + i) 0 0) (by decide +kernel) hi
  rintro d (rfl | rfl)
  · exact ⟨by decide +kernel, fun i hi => Bool.and_eq_true_iff.mp (h1 i hi)⟩
  · exact ⟨by decide +kernel, fun i hi => Bool.and_eq_true_iff.mp (h2 i hi)⟩
theorem x_bec74 {d s : Nat} (hd : (d = 15 ∧ s = 1) ∨ (d = 1 ∧ s = 15)) (N : hMem) : ∃ r, h_lp (fX7_become_L74 d s) h_FU (0, N) = some r ∧ (∀ a, a ≠ d → a < d + 10 ∨ d + 14 ≤ a → r a = N a) ∧ (∀ i, i < 4 → ∀ k, k < 3 → r (d + 10 + i) k = N (s + 10 + i) k) ∧ r d 5 = N s 5 ∧ r d 6 = N s 6 ∧ r d 7 = N s 7 := by
  refine lp_u0 (body := fX7_become_L74 d s) 4 (fun i z => ∃ Y : hMem, z = (nI i, Y) ∧ (∀ a, a < d + 10 ∨ d + 14 ≤ a → Y a = N a) ∧ (∀ j, j < i → ∀ k, k < 3 → Y (d + 10 + j) k = N (s + 10 + j) k)) _ (0, N) ⟨N, rfl, fun _ _ => rfl, fun j hj => absurd hj (Nat.not_lt_zero _)⟩ (by omega) ?_ ?_
  · rintro k z ⟨Y, rfl, h1, h2⟩
    unfold fX7_become_L74
    dsimp only
    rw [if_pos (show (4 : Int32) ≤ nI 4 from by decide)]
    refine ⟨_, rfl, ?_, ?_, ?_, ?_, ?_⟩
    · intro a h3 h4
      simp (disch := omega) only [m_row]
      exact h1 a h4
    · intro i hi k hk
      simp (disch := omega) only [m_row]
      exact h2 i hi k hk
    · simp (disch := omega) only [m_row, m_own, u_n, u_s]; rw [h1 s (by omega)]
    · simp (disch := omega) only [m_row, m_own, u_n, u_s]; rw [h1 s (by omega)]
    · simp (disch := omega) only [m_row, m_own, u_n, u_s]; rw [h1 s (by omega)]
  · rintro k i z hi ⟨Y, rfl, h1, h2⟩ hk
    unfold fX7_become_L74 fX0_become
    dsimp only
    rw [if_neg (show ¬ (4 : Int32) ≤ nI i from nI_ge (b := 4) hi (by decide)), if_pos (ib_mk hi (by omega)), if_pos (ib_mk hi (by omega)), nI_clamp (by omega), if_pos ((img_isB d (by omega)).2 i hi).2, if_pos ((img_isB s (by omega)).2 i hi).2, Option.bind_some, nI_1]
    refine hk _ ⟨_, rfl, ?_, ?_⟩
    · intro a h3
      simp (disch := omega) only [m_row]
      exact h1 a h3
    · intro j hj q hq
      by_cases e : j = i
      · subst e
        simp (disch := omega) only [m_row, m_own]
        rw [h1 (s + 10 + j) (by omega)]
        rcases (by omega : q = 0 ∨ q = 1 ∨ q = 2) with rfl | rfl | rfl <;> simp (disch := omega) only [u_n, u_s]
      · simp (disch := omega) only [m_row]
        exact h2 j (by omega) q hq
theorem x_become {d s : Nat} (hd : (d = 15 ∧ s = 1) ∨ (d = 1 ∧ s = 15)) (X : hMem) : ∃ r, fX7_become d s X = some r ∧ (∀ a, a < d ∨ d + 14 ≤ a → r a = X a) ∧ (∀ k, k < 3 → r (d + 1) k = X (s + 1) k) ∧ (∀ t, t < 24 → r (d + 2) t = X (s + 2) t ∧ r (d + 3) t = X (s + 3) t) ∧ (∀ i, i < 4 → ∀ k, k < 3 → r (d + 6 + i) k = X (s + 6 + i) k) ∧ (∀ i, i < 4 → ∀ k, k < 3 → r (d + 10 + i) k = X (s + 10 + i) k) ∧ r d 5 = X s 5 ∧ r d 6 = X s 6 ∧ r d 7 = X s 7 := by
  unfold fX7_become
  rw [if_pos (img_isB d (by omega)).1, if_pos (img_isB s (by omega)).1, if_pos (by decide +kernel), if_pos (by decide +kernel), if_pos (by decide +kernel)]
  obtain ⟨N, hN⟩ : ∃ N, N = h_cp (h_cp (h_cp X (s + 1) 0 (d + 1) 0 3) (s + 2) 0 (d + 2) 0 24) (s + 3) 0 (d + 3) 0 24 := ⟨_, rfl⟩
  rw [← hN]
  have nr : ∀ a, a ≠ d + 1 → a ≠ d + 2 → a ≠ d + 3 → N a = X a := fun a q1 q2 q3 => by rw [hN]; simp (disch := omega) only [m_cpr]
  have n1 : ∀ k, k < 3 → N (d + 1) k = X (s + 1) k := fun k hk => by
    rw [hN]; simp (disch := omega) only [m_cpr, m_cpo]
    show (if 0 ≤ k ∧ k < 0 + 3 then X (s + 1) (0 + (k - 0)) else _) = _
    rw [if_pos (by omega), show 0 + (k - 0) = k from by omega]
  have n2 : ∀ k, k < 24 → N (d + 2) k = X (s + 2) k := fun k hk => by
    rw [hN]; simp (disch := omega) only [m_cpr, m_cpo]
    show (if 0 ≤ k ∧ k < 0 + 24 then X (s + 2) (0 + (k - 0)) else _) = _
    rw [if_pos (by omega), show 0 + (k - 0) = k from by omega]
  have n3 : ∀ k, k < 24 → N (d + 3) k = X (s + 3) k := fun k hk => by
    rw [hN]; simp (disch := omega) only [m_cpr, m_cpo]
    show (if 0 ≤ k ∧ k < 0 + 24 then X (s + 3) (0 + (k - 0)) else _) = _
    rw [if_pos (by omega), show 0 + (k - 0) = k from by omega]
  clear hN
  refine lp_u0 (body := fX7_become_L46 d s) 4 (fun i z => ∃ Y : hMem, z = (nI i, Y) ∧ (∀ a, a < d + 6 ∨ d + 10 ≤ a → Y a = N a) ∧ (∀ j, j < i → ∀ k, k < 3 → Y (d + 6 + j) k = N (s + 6 + j) k)) _ (0, N) ⟨N, rfl, fun _ _ => rfl, fun j hj => absurd hj (Nat.not_lt_zero _)⟩ (by omega) ?_ ?_
  · rintro k z ⟨Y, rfl, h1, h2⟩
    unfold fX7_become_L46
    dsimp only
    rw [if_pos (show (4 : Int32) ≤ nI 4 from by decide)]
    obtain ⟨r, r1, r2, r3, r4, r5, r6⟩ := x_bec74 hd Y
    refine ⟨r, r1, ?_, ?_, ?_, ?_, ?_, ?_, ?_, ?_⟩
    · intro a h3; rw [r2 a (by omega) (by omega), h1 a (by omega), nr a (by omega) (by omega) (by omega)]
    · intro k hk; rw [r2 _ (by omega) (by omega), h1 _ (by omega), n1 k hk]
    · intro t ht; rw [r2 _ (by omega) (by omega), h1 _ (by omega), n2 t ht, r2 _ (by omega) (by omega), h1 _ (by omega), n3 t ht]; exact ⟨rfl, rfl⟩
    · intro i hi k hk; rw [r2 _ (by omega) (by omega), h2 i hi k hk, nr _ (by omega) (by omega) (by omega)]
    · intro i hi k hk; rw [r3 i hi k hk, h1 _ (by omega), nr _ (by omega) (by omega) (by omega)]
    · rw [r4, h1 _ (by omega), nr _ (by omega) (by omega) (by omega)]
    · rw [r5, h1 _ (by omega), nr _ (by omega) (by omega) (by omega)]
    · rw [r6, h1 _ (by omega), nr _ (by omega) (by omega) (by omega)]
  · rintro k i z hi ⟨Y, rfl, h1, h2⟩ hk
    unfold fX7_become_L46 fX2_become
    dsimp only
    rw [if_neg (show ¬ (4 : Int32) ≤ nI i from nI_ge (b := 4) hi (by decide)), if_pos (ib_mk hi (by omega)), if_pos (ib_mk hi (by omega)), nI_clamp (by omega), if_pos ((img_isB d (by omega)).2 i hi).1, if_pos ((img_isB s (by omega)).2 i hi).1, Option.bind_some, nI_1]
    refine hk _ ⟨_, rfl, ?_, ?_⟩
    · intro a h3
      simp (disch := omega) only [m_row]
      exact h1 a h3
    · intro j hj q hq
      by_cases e : j = i
      · subst e
        simp (disch := omega) only [m_row, m_own]
        rw [h1 (s + 6 + j) (by omega)]
        rcases (by omega : q = 0 ∨ q = 1 ∨ q = 2) with rfl | rfl | rfl <;> simp (disch := omega) only [u_n, u_s]
      · simp (disch := omega) only [m_row]
        exact h2 j (by omega) q hq
theorem m_im172 (N : hMem) : ∃ r, h_lp fX10_image_L172 h_FU (0, N) = some r ∧ r.1 = N 0 3 ∧ (∀ a, a ≠ 12 → r.2 a = N a) ∧ (∀ j, j < 67 → r.2 12 j = N 12 j) ∧ ∀ j, j < 12 → r.2 12 (67 + j) = N 8 j := by
  refine lp_u0 (body := fX10_image_L172) 12 (fun i z => ∃ Y : hMem, z = (nI i, Y) ∧ (∀ a, a ≠ 12 → Y a = N a) ∧ (∀ j, j < 67 → Y 12 j = N 12 j) ∧ ∀ j, j < i → Y 12 (67 + j) = N 8 j) _ (0, N) ⟨N, rfl, fun _ _ => rfl, fun _ _ => rfl, fun j hj => absurd hj (Nat.not_lt_zero _)⟩ (by omega) ?_ ?_
  · rintro k z ⟨Y, rfl, h1, h2, h3⟩
    unfold fX10_image_L172
    dsimp only
    rw [if_pos (show (12 : Int32) ≤ nI 12 from by decide)]
    exact ⟨_, rfl, by rw [h1 0 (by omega)], h1, h2, h3⟩
  · rintro k i z hi ⟨Y, rfl, h1, h2, h3⟩ hk
    unfold fX10_image_L172
    dsimp only
    rw [if_neg (show ¬ (12 : Int32) ≤ nI i from nI_ge (b := 12) hi (by decide)), show (67 : Int32) + nI i = nI (67 + i) from nI_add 67 i, if_pos (ib_mk hi (by omega)), if_pos (ib_mk (by omega) (by omega)), nI_clamp (by omega), nI_clamp (by omega), nI_1]
    refine hk _ ⟨_, rfl, ?_, ?_, ?_⟩
    · intro a ha; rw [m_row ha]; exact h1 a ha
    · intro j hj; rw [m_own, u_n (by omega)]; exact h2 j hj
    · intro j hj
      rw [m_own]
      by_cases e : j = i
      · subst e; rw [u_s, h1 8 (by omega)]
      · rw [u_n (by omega)]; exact h3 j (by omega)
theorem m_im99 (N : hMem) : ∃ r, h_lp fX10_image_L99 h_FU (0, N) = some r ∧ r.1 = N 0 3 ∧ (∀ a, a ≠ 12 → r.2 a = N a) ∧ (∀ j, j < 51 → r.2 12 j = N 12 j) ∧ (∀ h, h < 4 → r.2 12 (51 + h) = N 4 h ∧ r.2 12 (55 + h) = N 5 h ∧ r.2 12 (59 + h) = N 6 h ∧ r.2 12 (63 + h) = N 7 h) ∧ ∀ j, j < 12 → r.2 12 (67 + j) = N 8 j := by
  refine lp_u0 (body := fX10_image_L99) 4 (fun i z => ∃ Y : hMem, z = (nI i, Y) ∧ (∀ a, a ≠ 12 → Y a = N a) ∧ (∀ j, j < 51 → Y 12 j = N 12 j) ∧ ∀ h, h < i → Y 12 (51 + h) = N 4 h ∧ Y 12 (55 + h) = N 5 h ∧ Y 12 (59 + h) = N 6 h ∧ Y 12 (63 + h) = N 7 h) _ (0, N) ⟨N, rfl, fun _ _ => rfl, fun _ _ => rfl, fun j hj => absurd hj (Nat.not_lt_zero _)⟩ (by omega) ?_ ?_
  · rintro k z ⟨Y, rfl, h1, h2, h3⟩
    unfold fX10_image_L99
    dsimp only
    rw [if_pos (show (4 : Int32) ≤ nI 4 from by decide)]
    obtain ⟨r, r1, r2, r3, r4, r5⟩ := m_im172 Y
    refine ⟨r, r1, by rw [r2, h1 0 (by omega)], fun a ha => (r3 a ha).trans (h1 a ha), fun j hj => (r4 j (by omega)).trans (h2 j hj), fun h hh => ?_, fun j hj => ?_⟩
    · rw [r4 _ (by omega), r4 _ (by omega), r4 _ (by omega), r4 _ (by omega)]; exact h3 h hh
    · rw [r5 j hj, h1 8 (by omega)]
  · rintro k i z hi ⟨Y, rfl, h1, h2, h3⟩ hk
    unfold fX10_image_L99 fX10_image_L149
    dsimp only
    rw [if_neg (show ¬ (4 : Int32) ≤ nI i from nI_ge (b := 4) hi (by decide)), show (51 : Int32) + nI i = nI (51 + i) from nI_add 51 i, show (55 : Int32) + nI i = nI (55 + i) from nI_add 55 i, show (59 : Int32) + nI i = nI (59 + i) from nI_add 59 i, show (63 : Int32) + nI i = nI (63 + i) from nI_add 63 i]
    simp only [if_pos (show h_ib (nI i) 4 from ib_mk hi (by omega)), if_pos (show h_ib (nI (51 + i)) 79 from ib_mk (by omega) (by omega)), if_pos (show h_ib (nI (55 + i)) 79 from ib_mk (by omega) (by omega)), if_pos (show h_ib (nI (59 + i)) 79 from ib_mk (by omega) (by omega)), if_pos (show h_ib (nI (63 + i)) 79 from ib_mk (by omega) (by omega)), nI_1]
    simp (disch := omega) only [nI_clamp, m_row]
    refine hk _ ⟨_, rfl, ?_, ?_, ?_⟩
    · intro a ha; simp (disch := omega) only [m_row]; exact h1 a ha
    · intro j hj; simp (disch := omega) only [m_own, u_n]; exact h2 j hj
    · intro h hh
      simp only [m_own]
      by_cases e : h = i
      · subst e; simp (disch := omega) only [u_n, u_s]; rw [h1 4 (by omega), h1 5 (by omega), h1 6 (by omega), h1 7 (by omega)]; exact ⟨rfl, rfl, rfl, rfl⟩
      · simp (disch := omega) only [u_n]; exact h3 h (by omega)
theorem m_im56 (N : hMem) : ∃ r, h_lp fX10_image_L56 h_FU (0, N) = some r ∧ r.1 = N 0 3 ∧ (∀ a, a ≠ 12 → r.2 a = N a) ∧ (∀ j, j < 3 → r.2 12 j = N 12 j) ∧ (∀ t, t < 24 → r.2 12 (3 + t) = N 2 t ∧ r.2 12 (27 + t) = N 3 t) ∧ (∀ h, h < 4 → r.2 12 (51 + h) = N 4 h ∧ r.2 12 (55 + h) = N 5 h ∧ r.2 12 (59 + h) = N 6 h ∧ r.2 12 (63 + h) = N 7 h) ∧ ∀ j, j < 12 → r.2 12 (67 + j) = N 8 j := by
  refine lp_u0 (body := fX10_image_L56) 24 (fun i z => ∃ Y : hMem, z = (nI i, Y) ∧ (∀ a, a ≠ 12 → Y a = N a) ∧ (∀ j, j < 3 → Y 12 j = N 12 j) ∧ ∀ t, t < i → Y 12 (3 + t) = N 2 t ∧ Y 12 (27 + t) = N 3 t) _ (0, N) ⟨N, rfl, fun _ _ => rfl, fun _ _ => rfl, fun j hj => absurd hj (Nat.not_lt_zero _)⟩ (by omega) ?_ ?_
  · rintro k z ⟨Y, rfl, h1, h2, h3⟩
    unfold fX10_image_L56
    dsimp only
    rw [if_pos (show (24 : Int32) ≤ nI 24 from by decide)]
    obtain ⟨r, r1, r2, r3, r4, r5, r6⟩ := m_im99 Y
    refine ⟨r, r1, by rw [r2, h1 0 (by omega)], fun a ha => (r3 a ha).trans (h1 a ha), fun j hj => (r4 j (by omega)).trans (h2 j hj), fun t ht => ?_, fun h hh => ?_, fun j hj => ?_⟩
    · rw [r4 _ (by omega), r4 _ (by omega)]; exact h3 t ht
    · rw [← h1 4 (by omega), ← h1 5 (by omega), ← h1 6 (by omega), ← h1 7 (by omega)]; exact r5 h hh
    · rw [r6 j hj, h1 8 (by omega)]
  · rintro k i z hi ⟨Y, rfl, h1, h2, h3⟩ hk
    unfold fX10_image_L56
    dsimp only
    rw [if_neg (show ¬ (24 : Int32) ≤ nI i from nI_ge (b := 24) hi (by decide)), show (3 : Int32) + nI i = nI (3 + i) from nI_add 3 i, show (27 : Int32) + nI i = nI (27 + i) from nI_add 27 i]
    simp only [if_pos (show h_ib (nI i) 24 from ib_mk hi (by omega)), if_pos (show h_ib (nI (3 + i)) 79 from ib_mk (by omega) (by omega)), if_pos (show h_ib (nI (27 + i)) 79 from ib_mk (by omega) (by omega)), nI_1]
    simp (disch := omega) only [nI_clamp, m_row]
    refine hk _ ⟨_, rfl, ?_, ?_, ?_⟩
    · intro a ha; simp (disch := omega) only [m_row]; exact h1 a ha
    · intro j hj; simp (disch := omega) only [m_own, u_n]; exact h2 j hj
    · intro h hh
      simp only [m_own]
      by_cases e : h = i
      · subst e; simp (disch := omega) only [u_n, u_s]; rw [h1 2 (by omega), h1 3 (by omega)]; exact ⟨rfl, rfl⟩
      · simp (disch := omega) only [u_n]; exact h3 h (by omega)
theorem m_im31 (N : hMem) : ∃ r, h_lp fX10_image_L31 h_FU (0, N) = some r ∧ r.1 = N 0 3 ∧ (∀ a, a ≠ 12 → r.2 a = N a) ∧ (∀ j, j < 3 → r.2 12 j = N 1 j) ∧ (∀ t, t < 24 → r.2 12 (3 + t) = N 2 t ∧ r.2 12 (27 + t) = N 3 t) ∧ (∀ h, h < 4 → r.2 12 (51 + h) = N 4 h ∧ r.2 12 (55 + h) = N 5 h ∧ r.2 12 (59 + h) = N 6 h ∧ r.2 12 (63 + h) = N 7 h) ∧ ∀ j, j < 12 → r.2 12 (67 + j) = N 8 j := by
  refine lp_u0 (body := fX10_image_L31) 3 (fun i z => ∃ Y : hMem, z = (nI i, Y) ∧ (∀ a, a ≠ 12 → Y a = N a) ∧ ∀ j, j < i → Y 12 j = N 1 j) _ (0, N) ⟨N, rfl, fun _ _ => rfl, fun j hj => absurd hj (Nat.not_lt_zero _)⟩ (by omega) ?_ ?_
  · rintro k z ⟨Y, rfl, h1, h3⟩
    unfold fX10_image_L31
    dsimp only
    rw [if_pos (show (3 : Int32) ≤ nI 3 from by decide)]
    obtain ⟨r, r1, r2, r3, r4, r5, r6, r7⟩ := m_im56 Y
    refine ⟨r, r1, by rw [r2, h1 0 (by omega)], fun a ha => (r3 a ha).trans (h1 a ha), fun j hj => (r4 j (by omega)).trans (h3 j hj), fun t ht => ?_, fun h hh => ?_, fun j hj => ?_⟩
    · rw [← h1 2 (by omega), ← h1 3 (by omega)]; exact r5 t ht
    · rw [← h1 4 (by omega), ← h1 5 (by omega), ← h1 6 (by omega), ← h1 7 (by omega)]; exact r6 h hh
    · rw [r7 j hj, h1 8 (by omega)]
  · rintro k i z hi ⟨Y, rfl, h1, h3⟩ hk
    unfold fX10_image_L31
    dsimp only
    rw [if_neg (show ¬ (3 : Int32) ≤ nI i from nI_ge (b := 3) hi (by decide)), if_pos (ib_mk hi (by omega)), if_pos (ib_mk (by omega) (by omega)), nI_clamp (by omega), nI_1]
    refine hk _ ⟨_, rfl, ?_, ?_⟩
    · intro a ha; rw [m_row ha]; exact h1 a ha
    · intro j hj
      rw [m_own]
      by_cases e : j = i
      · subst e; rw [u_s, h1 1 (by omega)]
      · rw [u_n (by omega)]; exact h3 j (by omega)
theorem eq_image {X M : hMem} (R : RR X M) : EqC (fX9_image X) (fX10_image M) := by
  unfold fX9_image fX10_image fX10_image_L29
  obtain ⟨r, r0, r1, r2, r3, r4, r5, r6, r7, r8⟩ := x_become (d := 15) (s := 1) (Or.inl ⟨rfl, rfl⟩) X
  rw [r0, Option.bind_some]
  obtain ⟨N, hN⟩ : ∃ N : hMem, N = h_up (h_up (h_up (h_up M 0 16 1) 0 17 ((h_up M 0 16 1) 0 3)) 0 18 ((h_up (h_up M 0 16 1) 0 17 ((h_up M 0 16 1) 0 3)) 0 8)) 0 19 ((h_up (h_up (h_up M 0 16 1) 0 17 ((h_up M 0 16 1) 0 3)) 0 18 ((h_up (h_up M 0 16 1) 0 17 ((h_up M 0 16 1) 0 3)) 0 8)) 0 15) := ⟨_, rfl⟩
  rw [← hN]
  have nr : ∀ a, a ≠ 0 → N a = M a := fun a ha => by rw [hN]; simp (disch := omega) only [m_row]
  have n0 : ∀ j, j < 16 ∨ 19 < j → N 0 j = M 0 j := fun j hj => by rw [hN]; simp (disch := omega) only [m_own, u_n]
  have n16 : N 0 16 = 1 := by rw [hN]; simp (disch := omega) only [m_own, u_n, u_s]
  have n17 : N 0 17 = M 0 3 := by rw [hN]; simp (disch := omega) only [m_own, u_n, u_s]
  have n18 : N 0 18 = M 0 8 := by rw [hN]; simp (disch := omega) only [m_own, u_n, u_s]
  have n19 : N 0 19 = M 0 15 := by rw [hN]; simp (disch := omega) only [m_own, u_n, u_s]
  clear hN
  obtain ⟨z, z0, z1, z2, z3, z4, z5, z6⟩ := m_im31 N
  obtain ⟨H, hH, hx, hm⟩ := R.hats
  refine ⟨_, _, z.2, rfl, ?_, ?_⟩
  · rw [z0]
    have e : z.1 = (h_up r 0 2 1) 1 5 := by
      rw [m_row (by omega), r1 1 (by omega), hx, z1, n0 3 (by omega), hm]
    rw [← e]
  · have xr : ∀ a, a ≠ 0 → (h_up r 0 2 1) a = r a := fun a ha => by rw [m_row ha]
    have x0 : ∀ j, j ≠ 2 → (h_up r 0 2 1) 0 j = X 0 j := fun j hj => by rw [m_own, u_n hj, r1 0 (by omega)]
    have x2 : (h_up r 0 2 1) 0 2 = 1 := by rw [m_own, u_s]
    generalize h_up r 0 2 1 = Q at xr x0 x2 ⊢
    refine R.re (x0 4 (by omega)) ?_ (fun T n k => gNow_n n ?_ ?_ ?_ ?_ ?_) (fun T n k => ?_) ?_ ?_ (gTape_c R.tape ?_ ?_ ?_ ?_) (gSheets_c R.shs ?_ ?_) (fun T h6 tx => gTexts_c tx ?_ ?_ ?_ h6) ?_
    · rw [z2 0 (by omega), n0 14 (by omega)]
    · intro a h1 h2; rw [xr a (by omega), r1 a (by omega)]
    · intro a h1 h2; rw [z2 a (by omega), nr a (by omega)]
    · rw [xr 1 (by omega), r1 1 (by omega), z2 0 (by omega), n0 3 (by omega)]; exact n.2.2.2.2.1
    · rw [xr 1 (by omega), r1 1 (by omega), z2 0 (by omega), n0 8 (by omega)]; exact n.2.2.2.2.2.1
    · rw [xr 1 (by omega), r1 1 (by omega), z2 0 (by omega), n0 15 (by omega)]; exact n.2.2.2.2.2.2
    · obtain ⟨q1, q2, q3, q4, q5, q6, q7⟩ := n
      refine ⟨fun k hk => ?_, fun t ht => ?_, fun h hh => ?_, fun p hp => ?_, ?_, ?_, ?_⟩
      · rw [xr 16 (by omega), r2 k hk, z3 k hk, nr 1 (by omega)]; exact q1 k hk
      · obtain ⟨p1, p2, p3, p4⟩ := q2 t ht
        obtain ⟨s1, s2⟩ := r3 t ht
        obtain ⟨s3, s4⟩ := z4 t ht
        rw [nr 2 (by omega)] at s3
        rw [nr 3 (by omega)] at s4
        rw [xr 17 (by omega), xr 18 (by omega)]
        refine ⟨(s1.trans p1).trans s3.symm, (s2.trans p2).trans s4.symm, ?_, ?_⟩
        · show h_ib (z.2 12 (3 + t)) 5
          rw [s3]; exact p3
        · show h_ib (z.2 12 (27 + t)) 10
          rw [s4]; exact p4
      · obtain ⟨p0, p1, p2, p3, p4, p5, p6⟩ := q3 h hh
        obtain ⟨s1, s2, s3, s4⟩ := z5 h hh
        rw [nr 4 (by omega)] at s1
        rw [nr 5 (by omega)] at s2
        rw [nr 6 (by omega)] at s3
        rw [nr 7 (by omega)] at s4
        have t0 := r4 h hh 0 (by omega)
        have t1 := r4 h hh 1 (by omega)
        have t2 := r4 h hh 2 (by omega)
        dsimp only
        rw [xr _ (by omega), s1, s2, s3, s4]
        exact ⟨t0.trans p0, t1.trans p1, t2.trans p2, p3, p4, p5, p6⟩
      · obtain ⟨p0, p1, p2, p3, p4, p5⟩ := q4 p hp
        have s0 := z6 (3 * p) (by omega)
        have s1 := z6 (3 * p + 1) (by omega)
        have s2 := z6 (3 * p + 2) (by omega)
        rw [nr 8 (by omega)] at s0 s1 s2
        have t0 := r5 p hp 0 (by omega)
        have t1 := r5 p hp 1 (by omega)
        have t2 := r5 p hp 2 (by omega)
        dsimp only
        rw [xr _ (by omega), s0, s1, s2]
        exact ⟨t0.trans p0, t1.trans p1, t2.trans p2, p3, p4, p5⟩
      · rw [xr 15 (by omega), r6, z2 0 (by omega), n17]; exact q5
      · rw [xr 15 (by omega), r7, z2 0 (by omega), n18]; exact q6
      · rw [xr 15 (by omega), r8, z2 0 (by omega), n19]; exact q7
    · rw [x2, z2 0 (by omega), n16]
    · rw [z2 0 (by omega), n0 39 (by omega)]; exact R.hold
    · rw [xr _ (by omega), r1 _ (by omega)]
    · rw [xr _ (by omega), r1 _ (by omega)]
    · rw [z2 0 (by omega), n0 11 (by omega)]
    · rw [z2 9 (by omega), nr 9 (by omega)]
    · intro a h1; rw [xr _ (by omega), r1 _ (by omega)]
    · intro a h1 h2; rw [z2 a (by omega), nr a (by omega)]
    · intro a h1 h2 h3; rw [xr _ (by omega), r1 _ (by omega)]
    · rw [z2 _ (by omega), nr _ (by omega)]
    · rw [z2 _ (by omega), nr _ (by omega)]
    · rw [z2 _ (by omega), nr _ (by omega)]
end
section
/-! BACK -/
theorem m_bk177 (N : hMem) : ∃ r, h_lp fX10_back_L177 h_FU (0, N) = some r ∧ r.1 = N 0 3 ∧ (∀ a, a ≠ 8 → r.2 a = N a) ∧ ∀ j, j < 12 → r.2 8 j = N 12 (67 + j) := by
  refine lp_u0 (body := fX10_back_L177) 12 (fun i z => ∃ Y : hMem, z = (nI i, Y) ∧ (∀ a, a ≠ 8 → Y a = N a) ∧ ∀ j, j < i → Y 8 j = N 12 (67 + j)) _ (0, N) ⟨N, rfl, fun _ _ => rfl, fun j hj => absurd hj (Nat.not_lt_zero _)⟩ (by omega) ?_ ?_
  · rintro k z ⟨Y, rfl, h1, h3⟩
    unfold fX10_back_L177
    dsimp only
    rw [if_pos (show (12 : Int32) ≤ nI 12 from by decide)]
    exact ⟨_, rfl, by rw [h1 0 (by omega)], h1, h3⟩
  · rintro k i z hi ⟨Y, rfl, h1, h3⟩ hk
    unfold fX10_back_L177
    dsimp only
    rw [if_neg (show ¬ (12 : Int32) ≤ nI i from nI_ge (b := 12) hi (by decide)), show (67 : Int32) + nI i = nI (67 + i) from nI_add 67 i, if_pos (ib_mk (by omega) (by omega)), if_pos (ib_mk (by omega) (by omega)), nI_clamp (by omega), nI_clamp (by omega), nI_1]
    refine hk _ ⟨_, rfl, ?_, ?_⟩
    · intro a ha; rw [m_row ha]; exact h1 a ha
    · intro j hj
      rw [m_own]
      by_cases e : j = i
      · subst e; rw [u_s, h1 12 (by omega)]
      · rw [u_n (by omega)]; exact h3 j (by omega)
theorem m_bk104 (N : hMem) : ∃ r, h_lp fX10_back_L104 h_FU (0, N) = some r ∧ r.1 = N 0 3 ∧ (∀ a, a < 4 ∨ 8 < a → r.2 a = N a) ∧ (∀ h, h < 4 → r.2 4 h = N 12 (51 + h) ∧ r.2 5 h = N 12 (55 + h) ∧ r.2 6 h = N 12 (59 + h) ∧ r.2 7 h = N 12 (63 + h)) ∧ ∀ j, j < 12 → r.2 8 j = N 12 (67 + j) := by
  refine lp_u0 (body := fX10_back_L104) 4 (fun i z => ∃ Y : hMem, z = (nI i, Y) ∧ (∀ a, a < 4 ∨ 7 < a → Y a = N a) ∧ ∀ h, h < i → Y 4 h = N 12 (51 + h) ∧ Y 5 h = N 12 (55 + h) ∧ Y 6 h = N 12 (59 + h) ∧ Y 7 h = N 12 (63 + h)) _ (0, N) ⟨N, rfl, fun _ _ => rfl, fun j hj => absurd hj (Nat.not_lt_zero _)⟩ (by omega) ?_ ?_
  · rintro k z ⟨Y, rfl, h1, h3⟩
    unfold fX10_back_L104
    dsimp only
    rw [if_pos (show (4 : Int32) ≤ nI 4 from by decide)]
    obtain ⟨r, r1, r2, r3, r4⟩ := m_bk177 Y
    refine ⟨r, r1, by rw [r2, h1 0 (by omega)], fun a ha => (r3 a (by omega)).trans (h1 a (by omega)), fun h hh => ?_, fun j hj => ?_⟩
    · rw [r3 4 (by omega), r3 5 (by omega), r3 6 (by omega), r3 7 (by omega)]; exact h3 h hh
    · rw [r4 j hj, h1 12 (by omega)]
  · rintro k i z hi ⟨Y, rfl, h1, h3⟩ hk
    unfold fX10_back_L104 fX10_back_L154
    dsimp only
    rw [if_neg (show ¬ (4 : Int32) ≤ nI i from nI_ge (b := 4) hi (by decide)), show (51 : Int32) + nI i = nI (51 + i) from nI_add 51 i, show (55 : Int32) + nI i = nI (55 + i) from nI_add 55 i, show (59 : Int32) + nI i = nI (59 + i) from nI_add 59 i, show (63 : Int32) + nI i = nI (63 + i) from nI_add 63 i]
    simp only [if_pos (show h_ib (nI i) 4 from ib_mk hi (by omega)), if_pos (show h_ib (nI (51 + i)) 79 from ib_mk (by omega) (by omega)), if_pos (show h_ib (nI (55 + i)) 79 from ib_mk (by omega) (by omega)), if_pos (show h_ib (nI (59 + i)) 79 from ib_mk (by omega) (by omega)), if_pos (show h_ib (nI (63 + i)) 79 from ib_mk (by omega) (by omega)), nI_1]
    simp (disch := omega) only [nI_clamp, m_row]
    refine hk _ ⟨_, rfl, ?_, ?_⟩
    · intro a ha; simp (disch := omega) only [m_row]; exact h1 a ha
    · intro h hh
      simp (disch := omega) only [m_row, m_own]
      rw [h1 12 (by omega)]
      by_cases e : h = i
      · subst e; simp (disch := omega) only [u_s]; exact ⟨trivial, trivial, trivial, trivial⟩
      · simp (disch := omega) only [u_n]; exact h3 h (by omega)
theorem m_bk61 (N : hMem) : ∃ r, h_lp fX10_back_L61 h_FU (0, N) = some r ∧ r.1 = N 0 3 ∧ (∀ a, a < 2 ∨ 8 < a → r.2 a = N a) ∧ (∀ t, t < 24 → r.2 2 t = N 12 (3 + t) ∧ r.2 3 t = N 12 (27 + t)) ∧ (∀ h, h < 4 → r.2 4 h = N 12 (51 + h) ∧ r.2 5 h = N 12 (55 + h) ∧ r.2 6 h = N 12 (59 + h) ∧ r.2 7 h = N 12 (63 + h)) ∧ ∀ j, j < 12 → r.2 8 j = N 12 (67 + j) := by
  refine lp_u0 (body := fX10_back_L61) 24 (fun i z => ∃ Y : hMem, z = (nI i, Y) ∧ (∀ a, a < 2 ∨ 3 < a → Y a = N a) ∧ ∀ t, t < i → Y 2 t = N 12 (3 + t) ∧ Y 3 t = N 12 (27 + t)) _ (0, N) ⟨N, rfl, fun _ _ => rfl, fun j hj => absurd hj (Nat.not_lt_zero _)⟩ (by omega) ?_ ?_
  · rintro k z ⟨Y, rfl, h1, h3⟩
    unfold fX10_back_L61
    dsimp only
    rw [if_pos (show (24 : Int32) ≤ nI 24 from by decide)]
    obtain ⟨r, r1, r2, r3, r4, r5⟩ := m_bk104 Y
    refine ⟨r, r1, by rw [r2, h1 0 (by omega)], fun a ha => (r3 a (by omega)).trans (h1 a (by omega)), fun t ht => ?_, fun h hh => ?_, fun j hj => ?_⟩
    · rw [r3 2 (by omega), r3 3 (by omega)]; exact h3 t ht
    · rw [← h1 12 (by omega)]; exact r4 h hh
    · rw [← h1 12 (by omega)]; exact r5 j hj
  · rintro k i z hi ⟨Y, rfl, h1, h3⟩ hk
    unfold fX10_back_L61
    dsimp only
    rw [if_neg (show ¬ (24 : Int32) ≤ nI i from nI_ge (b := 24) hi (by decide)), show (3 : Int32) + nI i = nI (3 + i) from nI_add 3 i, show (27 : Int32) + nI i = nI (27 + i) from nI_add 27 i]
    simp only [if_pos (show h_ib (nI i) 24 from ib_mk hi (by omega)), if_pos (show h_ib (nI (3 + i)) 79 from ib_mk (by omega) (by omega)), if_pos (show h_ib (nI (27 + i)) 79 from ib_mk (by omega) (by omega)), nI_1]
    simp (disch := omega) only [nI_clamp, m_row]
    refine hk _ ⟨_, rfl, ?_, ?_⟩
    · intro a ha; simp (disch := omega) only [m_row]; exact h1 a ha
    · intro h hh
      simp (disch := omega) only [m_row, m_own]
      rw [h1 12 (by omega)]
      by_cases e : h = i
      · subst e; simp (disch := omega) only [u_s]; exact ⟨trivial, trivial⟩
      · simp (disch := omega) only [u_n]; exact h3 h (by omega)
theorem m_bk36 (N : hMem) : ∃ r, h_lp fX10_back_L36 h_FU (0, N) = some r ∧ r.1 = N 0 3 ∧ (∀ a, a < 1 ∨ 8 < a → r.2 a = N a) ∧ (∀ j, j < 3 → r.2 1 j = N 12 j) ∧ (∀ t, t < 24 → r.2 2 t = N 12 (3 + t) ∧ r.2 3 t = N 12 (27 + t)) ∧ (∀ h, h < 4 → r.2 4 h = N 12 (51 + h) ∧ r.2 5 h = N 12 (55 + h) ∧ r.2 6 h = N 12 (59 + h) ∧ r.2 7 h = N 12 (63 + h)) ∧ ∀ j, j < 12 → r.2 8 j = N 12 (67 + j) := by
  refine lp_u0 (body := fX10_back_L36) 3 (fun i z => ∃ Y : hMem, z = (nI i, Y) ∧ (∀ a, a ≠ 1 → Y a = N a) ∧ ∀ j, j < i → Y 1 j = N 12 j) _ (0, N) ⟨N, rfl, fun _ _ => rfl, fun j hj => absurd hj (Nat.not_lt_zero _)⟩ (by omega) ?_ ?_
  · rintro k z ⟨Y, rfl, h1, h3⟩
    unfold fX10_back_L36
    dsimp only
    rw [if_pos (show (3 : Int32) ≤ nI 3 from by decide)]
    obtain ⟨r, r1, r2, r3, r4, r5, r6⟩ := m_bk61 Y
    refine ⟨r, r1, by rw [r2, h1 0 (by omega)], fun a ha => (r3 a (by omega)).trans (h1 a (by omega)), fun j hj => (congrFun (r3 1 (by omega)) j).trans (h3 j hj), fun t ht => ?_, fun h hh => ?_, fun j hj => ?_⟩
    · rw [← h1 12 (by omega)]; exact r4 t ht
    · rw [← h1 12 (by omega)]; exact r5 h hh
    · rw [← h1 12 (by omega)]; exact r6 j hj
  · rintro k i z hi ⟨Y, rfl, h1, h3⟩ hk
    unfold fX10_back_L36
    dsimp only
    rw [if_neg (show ¬ (3 : Int32) ≤ nI i from nI_ge (b := 3) hi (by decide)), if_pos (ib_mk (by omega) (by omega)), if_pos (ib_mk (by omega) (by omega)), nI_clamp (by omega), nI_1]
    refine hk _ ⟨_, rfl, ?_, ?_⟩
    · intro a ha; rw [m_row ha]; exact h1 a ha
    · intro j hj
      rw [m_own]
      by_cases e : j = i
      · subst e; rw [u_s, h1 12 (by omega)]
      · rw [u_n (by omega)]; exact h3 j (by omega)
theorem eq_back {X M : hMem} (R : RR X M) : EqC (fX9_back X) (fX10_back M) := by
  unfold fX9_back fX10_back
  rw [R.flag]
  by_cases hf : M 0 16 = 0
  · rw [if_pos hf, if_pos hf]; exact EqC.now R
  rw [if_neg hf, if_neg hf]
  obtain ⟨r, r0, r1, r2, r3, r4, r5, r6, r7, r8⟩ := x_become (d := 1) (s := 15) (Or.inr ⟨rfl, rfl⟩) X
  rw [r0, Option.bind_some]
  obtain ⟨N, hN⟩ : ∃ N : hMem, N = h_up (h_up (h_up M 0 3 (M 0 17)) 0 8 ((h_up M 0 3 (M 0 17)) 0 18)) 0 15 ((h_up (h_up M 0 3 (M 0 17)) 0 8 ((h_up M 0 3 (M 0 17)) 0 18)) 0 19) := ⟨_, rfl⟩
  rw [← hN]
  have nr : ∀ a, a ≠ 0 → N a = M a := fun a ha => by rw [hN]; simp (disch := omega) only [m_row]
  have n0 : ∀ j, j ≠ 3 → j ≠ 8 → j ≠ 15 → N 0 j = M 0 j := fun j h1 h2 h3 => by rw [hN]; simp (disch := omega) only [m_own, u_n]
  have n17 : N 0 3 = M 0 17 := by rw [hN]; simp (disch := omega) only [m_own, u_n, u_s]
  have n18 : N 0 8 = M 0 18 := by rw [hN]; simp (disch := omega) only [m_own, u_n, u_s]
  have n19 : N 0 15 = M 0 19 := by rw [hN]; simp (disch := omega) only [m_own, u_n, u_s]
  clear hN
  obtain ⟨z, z0, z1, z2, z3, z4, z5, z6⟩ := m_bk36 N
  have e17 : X 15 5 = M 0 17 := by
    obtain ⟨T, t1, t2, t3, t4, n, k, -⟩ := R
    exact k.2.2.2.2.1.1
  refine ⟨_, _, z.2, rfl, ?_, ?_⟩
  · rw [z0]
    have e : z.1 = r 1 5 := by rw [r6, z1, n17, e17]
    rw [← e]
  · refine R.re ?_ ?_ (fun T n k => ?_) (fun T n k => gKept_c k ?_ ?_ ?_) ?_ ?_ (gTape_c R.tape ?_ ?_ ?_ ?_) (gSheets_c R.shs ?_ ?_) (fun T h6 tx => gTexts_c tx ?_ ?_ ?_ h6) ?_
    · rw [r1 0 (by omega)]
    · rw [z2 0 (by omega), n0 14 (by omega) (by omega) (by omega)]
    · obtain ⟨q1, q2, q3, q4, q5, q6, q7⟩ := k
      refine ⟨fun k hk => ?_, fun t ht => ?_, fun h hh => ?_, fun p hp => ?_, ?_, ?_, ?_⟩
      · rw [r2 k hk, z3 k hk, nr 12 (by omega)]; exact q1 k hk
      · obtain ⟨p1, p2, p3, p4⟩ := q2 t ht
        obtain ⟨s1, s2⟩ := r3 t ht
        obtain ⟨s3, s4⟩ := z4 t ht
        rw [nr 12 (by omega)] at s3 s4
        rw [s3, s4]
        exact ⟨s1.trans p1, s2.trans p2, p3, p4⟩
      · obtain ⟨p0, p1, p2, p3, p4, p5, p6⟩ := q3 h hh
        obtain ⟨s1, s2, s3, s4⟩ := z5 h hh
        rw [nr 12 (by omega)] at s1 s2 s3 s4
        have t0 := r4 h hh 0 (by omega)
        have t1 := r4 h hh 1 (by omega)
        have t2 := r4 h hh 2 (by omega)
        dsimp only
        rw [s1, s2, s3, s4]
        exact ⟨t0.trans p0, t1.trans p1, t2.trans p2, p3, p4, p5, p6⟩
      · obtain ⟨p0, p1, p2, p3, p4, p5⟩ := q4 p hp
        have s0 := z6 (3 * p) (by omega)
        have s1 := z6 (3 * p + 1) (by omega)
        have s2 := z6 (3 * p + 2) (by omega)
        rw [nr 12 (by omega)] at s0 s1 s2
        have t0 := r5 p hp 0 (by omega)
        have t1 := r5 p hp 1 (by omega)
        have t2 := r5 p hp 2 (by omega)
        dsimp only
        rw [s0, s1, s2]
        exact ⟨t0.trans p0, t1.trans p1, t2.trans p2, p3, p4, p5⟩
      · rw [r6, z2 0 (by omega), n17]; exact q5
      · rw [r7, z2 0 (by omega), n18]; exact q6
      · rw [r8, z2 0 (by omega), n19]; exact q7
    · intro a h1 h2; rw [r1 a (by omega)]
    · rw [z2 12 (by omega), nr 12 (by omega)]
    · intro j h1 h2; rw [z2 0 (by omega), n0 j (by omega) (by omega) (by omega)]
    · rw [r1 0 (by omega), z2 0 (by omega), n0 16 (by omega) (by omega) (by omega)]; exact R.flag
    · rw [z2 0 (by omega), n0 39 (by omega) (by omega) (by omega)]; exact R.hold
    · rw [r1 _ (by omega)]
    · rw [r1 _ (by omega)]
    · rw [z2 0 (by omega), n0 11 (by omega) (by omega) (by omega)]
    · rw [z2 9 (by omega), nr 9 (by omega)]
    · intro a h1; rw [r1 _ (by omega)]
    · intro a h1 h2; rw [z2 a (by omega), nr a (by omega)]
    · intro a h1 h2 h3; rw [r1 _ (by omega)]
    · rw [z2 _ (by omega), nr _ (by omega)]
    · rw [z2 _ (by omega), nr _ (by omega)]
    · rw [z2 _ (by omega), nr _ (by omega)]
end
section
/-! SHEETS: sheet, cell, gustsBy, copy -/
theorem RR.shE {X M : hMem} (R : RR X M) {s : Nat} (hs : s < 4) : ∃ n, n ≤ 40 ∧ X (80 + 2 * s) 0 = M 13 s ∧ X (80 + 2 * s) 1 = nI n ∧ M 14 s = nI n ∧ (M 13 s = -1 ∨ h_ib (M 13 s) 3) ∧ ∀ i, i < 40 → X (81 + 2 * s) i = M 15 (40 * s + i) := by
  obtain ⟨h1, h2, h3, h4, h5⟩ := R.shs s hs
  obtain ⟨n, n1, n2, n3⟩ := ib_ex h4
  exact ⟨n, by omega, h1, h2.trans n3, n3, h3, h5⟩
theorem sh_isB {s : Nat} (hs : s < 4) : h_isB hYx (80 + 2 * s) 5 0 = true := h_forall (N := 4) (p := fun s => h_isB hYx (80 + 2 * s) 5 0) (by decide +kernel) hs
theorem x_empty (v0 : Nat) (N : hMem) : ∃ r, h_lp (fX6_becomeEmpty_L12 v0) h_FU (0, N) = some r ∧ (∀ a, a ≠ v0 + 1 → r a = N a) ∧ ∀ i, i < 40 → r (v0 + 1) i = 0 := by
  refine lp_u0 (body := fX6_becomeEmpty_L12 v0) 40 (fun i z => ∃ Y : hMem, z = (nI i, Y) ∧ (∀ a, a ≠ v0 + 1 → Y a = N a) ∧ ∀ j, j < i → Y (v0 + 1) j = 0) _ (0, N) ⟨N, rfl, fun _ _ => rfl, fun j hj => absurd hj (Nat.not_lt_zero _)⟩ (by omega) ?_ ?_
  · rintro k z ⟨Y, rfl, h1, h3⟩
    unfold fX6_becomeEmpty_L12
    dsimp only
    rw [if_pos (show (40 : Int32) ≤ nI 40 from by decide)]
    exact ⟨_, rfl, h1, h3⟩
  · rintro k i z hi ⟨Y, rfl, h1, h3⟩ hk
    unfold fX6_becomeEmpty_L12
    dsimp only
    rw [if_neg (show ¬ (40 : Int32) ≤ nI i from nI_ge (b := 40) hi (by decide)), if_pos (ib_mk (by omega) (by omega)), nI_clamp (by omega), nI_1]
    refine hk _ ⟨_, rfl, ?_, ?_⟩
    · intro a ha; rw [m_row ha]; exact h1 a ha
    · intro j hj
      rw [m_own]
      by_cases e : j = i
      · subst e; rw [u_s]
      · rw [u_n (by omega)]; exact h3 j (by omega)
theorem m_empty {s : Nat} (hs : s < 4) (N : hMem) : ∃ r, h_lp (fX10_sheet_L70 (nI s)) h_FU (0, N) = some r ∧ r.1 = 1 ∧ (∀ a, a ≠ 15 → r.2 a = N a) ∧ (∀ i, i < 40 → r.2 15 (40 * s + i) = 0) ∧ ∀ j, j < 40 * s ∨ 40 * s + 40 ≤ j → r.2 15 j = N 15 j := by
  refine lp_u0 (body := fX10_sheet_L70 (nI s)) 40 (fun i z => ∃ Y : hMem, z = (nI i, Y) ∧ (∀ a, a ≠ 15 → Y a = N a) ∧ (∀ j, j < i → Y 15 (40 * s + j) = 0) ∧ ∀ j, j < 40 * s ∨ 40 * s + 40 ≤ j → Y 15 j = N 15 j) _ (0, N) ⟨N, rfl, fun _ _ => rfl, fun j hj => absurd hj (Nat.not_lt_zero _), fun _ _ => rfl⟩ (by omega) ?_ ?_
  · rintro k z ⟨Y, rfl, h1, h3, h4⟩
    unfold fX10_sheet_L70
    dsimp only
    rw [if_pos (show (40 : Int32) ≤ nI 40 from by decide)]
    exact ⟨_, rfl, rfl, h1, h3, h4⟩
  · rintro k i z hi ⟨Y, rfl, h1, h3, h4⟩ hk
    unfold fX10_sheet_L70
    dsimp only
    rw [if_neg (show ¬ (40 : Int32) ≤ nI i from nI_ge (b := 40) hi (by decide)), show (40 : Int32) * nI s = nI (40 * s) from pk_mul 40 s, nI_add, if_pos (ib_mk (by omega) (by omega)), nI_clamp (by omega), nI_1]
    refine hk _ ⟨_, rfl, ?_, ?_, ?_⟩
    · intro a ha; rw [m_row ha]; exact h1 a ha
    · intro j hj
      rw [m_own]
      by_cases e : j = i
      · subst e; rw [u_s]
      · rw [u_n (by omega)]; exact h3 j (by omega)
    · intro j hj; rw [m_own, u_n (by omega)]; exact h4 j hj
theorem eq_she {X M : hMem} (R : RR X M) {s : Nat} (hs : s < 4) {v w : Int32} (hv : v = -1 ∨ h_ib v 3) (hw : h_ib w 41) : EqC ((fX6_becomeEmpty (80 + 2 * s) v w X).bind fun q60 => some (1, q60)) (h_lp (fX10_sheet_L70 (nI s)) h_FU (0, h_up (h_up M 13 s v) 14 s w)) := by
  unfold fX6_becomeEmpty
  rw [if_pos (sh_isB hs)]
  obtain ⟨r, r1, r2, r3⟩ := x_empty (80 + 2 * s) (h_up (h_up X (80 + 2 * s) 0 v) (80 + 2 * s) 1 w)
  obtain ⟨z, z1, z2, z3, z4, z5⟩ := m_empty hs (h_up (h_up M 13 s v) 14 s w)
  rw [r1, Option.bind_some]
  refine ⟨1, r, z.2, rfl, by rw [z1, ← z2], R.sheets ?_ ?_ ?_ ?_ ?_⟩
  · intro a _ h2; rw [r2 a (by omega)]; simp (disch := omega) only [m_row]
  · rw [r2 30 (by omega)]; simp (disch := omega) only [m_row]
  · intro a _ h2; rw [z3 a (by omega)]; simp (disch := omega) only [m_row]
  · intro j hj; rw [z3 0 (by omega)]; simp (disch := omega) only [m_row]
  · intro q hq
    obtain ⟨p1, p2, p3, p4, p5⟩ := R.shs q hq
    by_cases e : q = s
    · subst e
      rw [r2 (80 + 2 * q) (by omega), z3 13 (by omega), z3 14 (by omega)]
      simp (disch := omega) only [m_row, m_own, u_s, u_n]
      refine ⟨trivial, trivial, hv, hw, fun i hi => ?_⟩
      rw [show 81 + 2 * q = 80 + 2 * q + 1 from by omega, r3 i hi, z4 i hi]
    · rw [r2 (80 + 2 * q) (by omega), z3 13 (by omega), z3 14 (by omega), r2 (81 + 2 * q) (by omega)]
      simp (disch := omega) only [m_row, m_own, u_n]
      refine ⟨p1, p2, p3, p4, fun i hi => ?_⟩
      rw [z5 _ (by omega)]
      simp (disch := omega) only [m_row]
      exact p5 i hi
theorem ibm1 (a : Int32) : (¬ a < -1) → (¬ 2 < a) → a = -1 ∨ h_ib a 3 := by
  intro h1 h2
  have e1 : (-1 : Int32).toInt = -1 := by decide
  have a1 : ¬ a.toInt < -1 := fun h => h1 (by rw [Int32.lt_iff_toInt_lt, e1]; exact h)
  have a2 : ¬ 2 < a.toInt := fun h => h2 (by rw [Int32.lt_iff_toInt_lt]; exact h)
  by_cases e : a.toInt = -1
  · left; apply Int32.toInt_inj.mp; rw [e, e1]
  · right; rw [ib_int]; omega
theorem ib41 (a : Int32) : 0 ≤ a → a ≤ 40 → h_ib a 41 := by
  intro h1 h2
  have a1 := Jvm.Kit.i32_nonneg.mp h1
  have a2 : a.toInt ≤ 40 := by rw [Int32.le_iff_toInt_le] at h2; exact h2
  rw [ib_int]; omega
theorem eq_sheet {X M : hMem} (R : RR X M) (a b c : Int32) : EqC (fX9_sheet a b c X) (fX10_sheet a b c M) := by
  unfold fX9_sheet fX10_sheet fX9_sheet_L31 fX10_sheet_L32 fX9_sheet_L43 fX10_sheet_L44
  rw [xe_sheet, me_in3, b01, b01, show fX10_in b (-1) 2 M = if b < -1 then 0 else if 2 < b then 0 else 1 from rfl]
  by_cases ha : h_ib a 4
  rotate_left
  · rw [if_neg ha, if_neg ha]; exact EqC.now R
  simp only [if_pos ha]
  by_cases c1 : b < -1
  · rw [if_pos c1, if_pos c1, if_pos (show (0 : Int32) = 0 from rfl)]; exact EqC.now R
  rw [if_neg c1, if_neg c1]
  by_cases c2 : 2 < b
  · rw [if_pos c2, if_pos c2, if_pos (show (0 : Int32) = 0 from rfl)]; exact EqC.now R
  rw [if_neg c2, if_neg c2, if_neg (show ¬ (1 : Int32) = 0 from by decide)]
  obtain ⟨s, hs, hs2, rfl⟩ := ib_ex ha
  simp only [nI_clamp hs2]
  by_cases hb : b = -1
  · simp only [if_pos hb]
    exact eq_she R hs (Or.inl hb) (ib_mk (j := 0) (by omega) (by omega))
  · simp only [if_neg hb]
    by_cases c3 : c ≤ 40
    rotate_left
    · rw [if_neg c3, if_neg c3]; exact EqC.now R
    rw [if_pos c3, if_pos c3]
    by_cases c4 : 0 ≤ c
    rotate_left
    · rw [if_neg c4, if_neg c4]; exact EqC.now R
    rw [if_pos c4, if_pos c4]
    exact eq_she R hs (ibm1 b c1 c2) (ib41 c c4 c3)
theorem eq_cell {X M : hMem} (R : RR X M) (a b c : Int32) : EqC (fX9_cell a b c X) (fX10_cell a b c M) := by
  unfold fX9_cell fX10_cell fX6_put
  rw [xe_sheet, me_in3, b01, b01]
  by_cases ha : h_ib a 4
  rotate_left
  · rw [if_neg ha, if_neg ha]; exact EqC.now R
  rw [if_pos ha, if_pos ha]
  obtain ⟨s, hs, hs2, rfl⟩ := ib_ex ha
  obtain ⟨n, hn, e0, e1, e2, e3, e4⟩ := R.shE hs
  simp only [if_pos ha, nI_clamp hs2, e0, e1, e2, if_pos (sh_isB hs)]
  by_cases c1 : M 13 s = -1
  · rw [if_pos c1, if_pos c1]; exact EqC.now R
  rw [if_neg c1, if_neg c1, me_cnt b n M (by omega), b01, if_lt _ _ _ _ (by omega)]
  by_cases hb : h_ib b n
  rotate_left
  · rw [if_neg hb, if_neg hb]; exact EqC.now R
  rw [if_pos hb, if_pos hb]
  obtain ⟨i, hi, hi2, rfl⟩ := ib_ex hb
  simp only [if_neg (nI_pos hi2), if_pos (nI_lt hi (show n < 2 ^ 31 by omega)), if_pos (show h_ib (nI i) 40 from ib_mk (by omega) (by omega)), show (40 : Int32) * nI s = nI (40 * s) from pk_mul 40 s, nI_add, if_pos (show h_ib (nI (40 * s + i)) 160 from ib_mk (by omega) (by omega)), nI_clamp hi2, nI_clamp (show 40 * s + i < 2 ^ 31 by omega)]
  have fin : ∀ v, RR (h_up X (80 + 2 * s + 1) i v) (h_up M 15 (40 * s + i) v) := by
    intro v
    refine R.sheets ?_ ?_ ?_ ?_ ?_
    · intro a _ h2; simp (disch := omega) only [m_row]
    · simp (disch := omega) only [m_row]
    · intro a _ h2; simp (disch := omega) only [m_row]
    · intro j hj; simp (disch := omega) only [m_row]
    · intro q hq
      obtain ⟨p1, p2, p3, p4, p5⟩ := R.shs q hq
      by_cases e : q = s
      · subst e
        rw [show 81 + 2 * q = 80 + 2 * q + 1 from by omega] at p5 ⊢
        simp (disch := omega) only [m_row, m_own]
        refine ⟨p1, p2, p3, p4, fun j hj => ?_⟩
        by_cases e : j = i
        · subst e; rw [u_s, u_s]
        · rw [u_n (by omega), u_n (by omega)]; exact p5 j hj
      · simp (disch := omega) only [m_row, m_own]
        refine ⟨p1, p2, p3, p4, fun j hj => ?_⟩
        rw [u_n (by omega)]
        exact p5 j hj
  by_cases k0 : M 13 s = 0
  · rw [if_pos k0, if_pos k0]; exact EqC.now (fin _)
  rw [if_neg k0, if_neg k0]
  by_cases k1 : M 13 s = 1
  · rw [if_pos k1, if_pos k1]; exact EqC.now (fin _)
  rw [if_neg k1, if_neg k1]; exact EqC.now (fin _)
end
section
/-! GUSTSBY, COPY -/
theorem le_sub3 {a n : Nat} (ha : a < 2 ^ 31) (hn : n < 2 ^ 30) : (nI a ≤ nI n - 3) ↔ a + 3 ≤ n := by
  rw [Int32.le_iff_toInt_le, nI_toInt ha, show (nI n - 3).toInt = (n : Int) - 3 from pk_sub_toInt (a := n) (b := 3) hn (by decide)]
  omega
theorem eq_gustsBy {X M : hMem} (R : RR X M) (a b c d : Int32) : EqC (fX9_gustsBy a b c d X) (fX10_gustsBy a b c d M) := by
  unfold fX9_gustsBy fX10_gustsBy
  rw [xe_sheet, me_in3, b01, b01, q_gt2, me_in2, b01, q_le13, show fX10_in d 0 13 M = if h_ib d 14 then 1 else 0 from me_in d 13 M (by decide), b01]
  by_cases ha : h_ib a 4
  rotate_left
  · rw [if_neg ha, if_neg ha]; exact EqC.now R
  simp only [if_pos ha]
  by_cases hb : h_ib b 3
  rotate_left
  · rw [if_neg hb, if_neg hb]; exact EqC.now R
  rw [if_pos hb, if_pos hb]
  by_cases hd : h_ib d 14
  rotate_left
  · rw [if_neg hd, if_neg hd]; exact EqC.now R
  rw [if_pos hd, if_pos hd]
  obtain ⟨s, hs, hs2, rfl⟩ := ib_ex ha
  obtain ⟨n, hn, e0, e1, e2, e3, e4⟩ := R.shE hs
  simp only [if_pos ha, nI_clamp hs2, e0]
  by_cases c1 : M 13 s = -1
  · rw [if_pos c1, if_pos c1]; exact EqC.now R
  rw [if_neg c1, if_neg c1]
  by_cases c2 : M 13 s = b
  rotate_left
  · rw [if_neg c2, if_neg c2]; exact EqC.now R
  rw [if_pos c2, if_pos c2]
  obtain ⟨m, hm, hm2, rfl⟩ := ib_ex hd
  refine EqC.of (lp20 (body := fX9_gustsBy_L72 (nI m) (80 + 2 * s)) (body' := fX10_gustsBy_L64 (nI s) c (nI m)) m (fun i z z' => ∃ cnt idx X' M', z = (cnt, idx, nI i, X') ∧ z' = (cnt, nI i, M') ∧ RR X' M' ∧ ((i = 0 ∧ idx = c) ∨ ∃ q, c = nI q ∧ idx = nI (q + 3 * i) ∧ q + 3 * i ≤ 40)) EqQ (0, c, 0, X) (0, 0, M) ⟨0, c, X, M, rfl, rfl, R, Or.inl ⟨rfl, rfl⟩⟩ (by omega) ?_ ?_)
  · rintro k k' z z' ⟨cnt, idx, X', M', rfl, rfl, R', -⟩
    unfold fX9_gustsBy_L72 fX10_gustsBy_L64
    dsimp only
    rw [if_pos (nI_le (Nat.le_refl _) (by omega)), if_pos (nI_le (Nat.le_refl _) (by omega))]
    exact ⟨_, _, rfl, rfl, rfl, R'⟩
  · rintro k k' i z z' hi ⟨cnt, idx, X', M', rfl, rfl, R', hidx⟩ hk
    unfold fX9_gustsBy_L72 fX10_gustsBy_L64
    dsimp only
    rw [if_neg (nI_ge hi (by omega)), if_neg (nI_ge hi (by omega))]
    have hneg : (idx < 0 ↔ c < 0) := by
      rcases hidx with ⟨h1, h2⟩ | ⟨q, h1, h2, h3⟩
      · rw [h2]
      · rw [h1, h2]
        exact ⟨fun h => absurd h (nI_pos (by omega)), fun h => absurd h (nI_pos (by omega))⟩
    by_cases cn : c < 0
    · rw [if_pos (hneg.mpr cn), if_pos cn]
      exact ⟨_, _, rfl, rfl, rfl, R'⟩
    rw [if_neg (fun h => cn (hneg.mp h)), if_neg cn]
    obtain ⟨q, hq, rfl, rfl, hq3⟩ : ∃ q, q + 3 * i < 2 ^ 31 ∧ c = nI q ∧ idx = nI (q + 3 * i) ∧ (i = 0 ∨ q + 3 * i ≤ 40) := by
      rcases hidx with ⟨h1, h2⟩ | ⟨q, h1, h2, h3⟩
      · have h0 := (lt0_int c)
        have hb := c.toInt_lt
        have hc1 : ¬ c.toInt < 0 := fun h => cn (h0.mpr h)
        have e : c = nI c.toInt.toNat := by
          apply Int32.toInt_inj.mp
          rw [nI_toInt (by omega)]; omega
        refine ⟨c.toInt.toNat, by omega, e, ?_, Or.inl h1⟩
        rw [h1, h2, Nat.mul_zero, Nat.add_zero]; exact e
      · exact ⟨q, by omega, h1, h2, Or.inr h3⟩
    obtain ⟨n', hn', f0, f1, f2, f3, f4⟩ := R'.shE hs
    simp only [f1, f2, nI_clamp hs2, if_pos ha, show (3 : Int32) * nI i = nI (3 * i) from pk_mul 3 i, nI_add]
    rw [if_neg (nI_nlt (by omega) (by omega))]
    by_cases cl : q + 3 * i + 3 ≤ n'
    rotate_left
    · rw [if_neg (fun h => cl ((le_sub3 hq (by omega)).mp h)), if_neg (fun h => cl ((le_sub3 hq (by omega)).mp h))]
      exact ⟨_, _, rfl, rfl, rfl, R'⟩
    rw [if_pos ((le_sub3 hq (by omega)).mpr cl), if_pos ((le_sub3 hq (by omega)).mpr cl)]
    rw [show (40 : Int32) * nI s = nI (40 * s) from pk_mul 40 s, nI_add, show nI (q + 3 * i) + 1 = nI (q + 3 * i + 1) from nI_add _ 1, show nI (q + 3 * i) + 2 = nI (q + 3 * i + 2) from nI_add _ 2, show nI (q + 3 * i) + 3 = nI (q + 3 * i + 3) from nI_add _ 3, show nI (40 * s + (q + 3 * i)) + 1 = nI (40 * s + (q + 3 * i) + 1) from nI_add _ 1, show nI (40 * s + (q + 3 * i)) + 2 = nI (40 * s + (q + 3 * i) + 2) from nI_add _ 2]
    rw [if_pos (ib_mk (by omega) (by omega)), if_pos (ib_mk (by omega) (by omega)), if_pos (ib_mk (by omega) (by omega)), if_pos (ib_mk (by omega) (by omega)), if_pos (ib_mk (by omega) (by omega)), if_pos (ib_mk (by omega) (by omega))]
    simp (disch := omega) only [nI_clamp]
    rw [show 80 + 2 * s + 1 = 81 + 2 * s from by omega, f4 _ (by omega), f4 _ (by omega), f4 _ (by omega), show 40 * s + (q + 3 * i + 1) = 40 * s + (q + 3 * i) + 1 from by omega, show 40 * s + (q + 3 * i + 2) = 40 * s + (q + 3 * i) + 2 from by omega]
    obtain ⟨v, X2, M2, b1, b2, R2⟩ := eq_blow R' (M' 15 (40 * s + (q + 3 * i))) (M' 15 (40 * s + (q + 3 * i) + 1)) (M' 15 (40 * s + (q + 3 * i) + 2))
    rw [b1, b2, Option.bind_some, Option.bind_some]
    dsimp only
    by_cases hv : v < 0
    · rw [if_pos hv, if_pos hv, Int32.add_zero, nI_1]
      exact hk _ _ ⟨cnt, _, X2, M2, rfl, rfl, R2, Or.inr ⟨q, rfl, by rw [show q + 3 * (i + 1) = q + 3 * i + 3 from by omega], by omega⟩⟩
    · rw [if_neg hv, if_neg hv, nI_1]
      exact hk _ _ ⟨cnt + 1, _, X2, M2, rfl, rfl, R2, Or.inr ⟨q, rfl, by rw [show q + 3 * (i + 1) = q + 3 * i + 3 from by omega], by omega⟩⟩
theorem cpb_ok {a b c n0 n1 : Nat} (h1 : a + c ≤ n0) (h2 : b + c ≤ n1) (h3 : n0 < 2 ^ 31) (h4 : n1 < 2 ^ 31) : h_cpb (nI a) (nI b) (nI c) n0 n1 = true := by
  unfold h_cpb
  rw [nI_clamp (by omega), nI_clamp (by omega), nI_clamp (by omega), decide_eq_true (nI_pos' (by omega)), decide_eq_true (nI_pos' (by omega)), decide_eq_true (nI_pos' (by omega)), Nat.ble_eq_true_of_le h1, Nat.ble_eq_true_of_le h2]
  rfl
def cpy1 (f : Nat → Int32) (s d n : Nat) (j : Nat) : Int32 := if d ≤ j ∧ j < d + n then f (s + (j - d)) else f j
theorem m_cpy {s d n : Nat} (hs : s + n ≤ 160) (hd : d + n ≤ 160) (hn : n ≤ 160) (N : hMem) : ∃ r, h_lp (fX10_copy_L147 (nI n) (nI s) (nI d)) h_FU (0, N) = some r ∧ r.1 = nI n ∧ (∀ a, a ≠ 15 → r.2 a = N a) ∧ ∀ j, r.2 15 j = cpy1 (N 15) s d n j := by
  by_cases hsd : d ≤ s
  · refine lp_u0 (body := fX10_copy_L147 (nI n) (nI s) (nI d)) n (fun i z => ∃ Y : hMem, z = (nI i, Y) ∧ (∀ a, a ≠ 15 → Y a = N a) ∧ ∀ j, Y 15 j = cpy1 (N 15) s d i j) _ (0, N) ⟨N, rfl, fun _ _ => rfl, fun j => by unfold cpy1; rw [if_neg (by omega)]⟩ (by omega) ?_ ?_
    · rintro k z ⟨Y, rfl, h1, h3⟩
      unfold fX10_copy_L147
      dsimp only
      rw [if_pos (nI_le (Nat.le_refl _) (by omega))]
      exact ⟨_, rfl, rfl, h1, h3⟩
    · rintro k i z hi ⟨Y, rfl, h1, h3⟩ hk
      unfold fX10_copy_L147 fX10_copy_L173
      dsimp only
      rw [if_neg (nI_ge hi (by omega)), if_pos (nI_le hsd (by omega)), nI_add, nI_add, if_pos (ib_mk (by omega) (by omega)), if_pos (ib_mk (by omega) (by omega)), nI_clamp (by omega), nI_clamp (by omega), nI_1]
      refine hk _ ⟨_, rfl, ?_, ?_⟩
      · intro a ha; rw [m_row ha]; exact h1 a ha
      · intro j
        rw [m_own]
        by_cases e : j = d + i
        · subst e
          rw [u_s, h3]
          unfold cpy1
          rw [if_neg (by omega), if_pos (by omega), show s + (d + i - d) = s + i from by omega]
        · rw [u_n e, h3]
          unfold cpy1
          by_cases c : d ≤ j ∧ j < d + i
          · rw [if_pos c, if_pos (by omega)]
          · rw [if_neg c, if_neg (by omega)]
  · refine lp_u0 (body := fX10_copy_L147 (nI n) (nI s) (nI d)) n (fun i z => ∃ Y : hMem, z = (nI i, Y) ∧ (∀ a, a ≠ 15 → Y a = N a) ∧ ∀ j, Y 15 j = if d + n - i ≤ j ∧ j < d + n then N 15 (s + (j - d)) else N 15 j) _ (0, N) ⟨N, rfl, fun _ _ => rfl, fun j => by rw [if_neg (by omega)]⟩ (by omega) ?_ ?_
    · rintro k z ⟨Y, rfl, h1, h3⟩
      unfold fX10_copy_L147
      dsimp only
      rw [if_pos (nI_le (Nat.le_refl _) (by omega))]
      refine ⟨_, rfl, rfl, h1, fun j => ?_⟩
      show Y 15 j = _
      rw [h3]
      unfold cpy1
      rw [show d + n - n = d from by omega]
    · rintro k i z hi ⟨Y, rfl, h1, h3⟩ hk
      unfold fX10_copy_L147 fX10_copy_L173
      dsimp only
      rw [if_neg (nI_ge hi (by omega)), if_neg (nI_ge (by omega) (by omega)), nI_sub1 (by omega), pk_sub (by omega), nI_add, nI_add, if_pos (ib_mk (by omega) (by omega)), if_pos (ib_mk (by omega) (by omega)), nI_clamp (by omega), nI_clamp (by omega), nI_1]
      refine hk _ ⟨_, rfl, ?_, ?_⟩
      · intro a ha; rw [m_row ha]; exact h1 a ha
      · intro j
        rw [m_own]
        by_cases e : j = d + (n - 1 - i)
        · subst e
          rw [u_s, h3, if_neg (by omega), if_pos (by omega), show s + (d + (n - 1 - i) - d) = s + (n - 1 - i) from by omega]
        · rw [u_n e, h3]
          by_cases c : d + n - i ≤ j ∧ j < d + n
          · rw [if_pos c, if_pos (by omega)]
          · rw [if_neg c, if_neg (by omega)]
theorem lt_subN {a b n : Nat} (ha : a < 2 ^ 31) (hb : b < 2 ^ 31) (hn : n ≤ 40) : (nI n - nI b < nI a) ↔ n < a + b := by
  rw [Int32.lt_iff_toInt_lt, nI_toInt ha, fb_subI (by rw [nI_toInt hb, nI_toInt (by omega)]; omega) (by rw [nI_toInt hb, nI_toInt (by omega)]; omega), nI_toInt hb, nI_toInt (by omega)]
  omega
theorem nat_of {a : Int32} (h : ¬ a < 0) : ∃ j, j < 2 ^ 31 ∧ a = nI j := by
  have h0 := (lt0_int a)
  have hb := a.toInt_lt
  have hc1 : ¬ a.toInt < 0 := fun q => h (h0.mpr q)
  refine ⟨a.toInt.toNat, by omega, ?_⟩
  apply Int32.toInt_inj.mp
  rw [nI_toInt (by omega)]; omega
theorem eq_copy {X M : hMem} (R : RR X M) (a b c d e : Int32) : EqC (fX9_copy a b c d e X) (fX10_copy a b c d e M) := by
  unfold fX9_copy fX10_copy
  rw [xe_sheet, xe_sheet, me_in3, me_in3, b01, b01, b01, b01]
  by_cases ha : h_ib a 4
  rotate_left
  · rw [if_neg ha, if_neg ha]; exact EqC.now R
  simp only [if_pos ha]
  by_cases hc : h_ib c 4
  rotate_left
  · rw [if_neg hc, if_neg hc]; exact EqC.now R
  rw [if_pos hc, if_pos hc]
  simp only [if_pos ha, if_pos hc]
  obtain ⟨s, hs, hs2, rfl⟩ := ib_ex ha
  obtain ⟨t, ht, ht2, rfl⟩ := ib_ex hc
  obtain ⟨n, hn, e0, e1, e2, e3, e4⟩ := R.shE hs
  obtain ⟨m, hm, f0, f1, f2, f3, f4⟩ := R.shE ht
  simp only [nI_clamp hs2, nI_clamp ht2, e0, e1, e2, f0, f1, f2]
  by_cases c1 : M 13 s = -1
  · rw [if_pos c1, if_pos c1]; exact EqC.now R
  rw [if_neg c1, if_neg c1]
  by_cases c2 : M 13 t = -1
  · rw [if_pos c2, if_pos c2]; exact EqC.now R
  rw [if_neg c2, if_neg c2]
  by_cases c3 : M 13 s = M 13 t
  rotate_left
  · rw [if_neg c3, if_neg c3]; exact EqC.now R
  rw [if_pos c3, if_pos c3]
  by_cases ce : e < 0
  · rw [if_pos ce, if_pos ce]; exact EqC.now R
  rw [if_neg ce, if_neg ce]
  by_cases cb : b < 0
  · rw [if_pos cb, if_pos cb]; exact EqC.now R
  rw [if_neg cb, if_neg cb]
  by_cases cd : d < 0
  · rw [if_pos cd, if_pos cd]; exact EqC.now R
  rw [if_neg cd, if_neg cd]
  obtain ⟨k, hk, rfl⟩ := nat_of ce
  obtain ⟨i, hi, rfl⟩ := nat_of cb
  obtain ⟨j, hj, rfl⟩ := nat_of cd
  have q1 : (nI n - nI k < nI i) ↔ n < i + k := lt_subN hi hk hn
  have q2 : (nI j ≤ nI m - nI k) ↔ j + k ≤ m := by
    rw [nle_lt, lt_subN hj hk hm]; omega
  have q3 : (nI n < nI i) ↔ n < i := nI_ltI (by omega) hi
  have q4 : (nI m < nI j) ↔ m < j := nI_ltI (by omega) hj
  have q5 : (nI n - nI i < nI k) ↔ n < i + k := by rw [lt_subN hk hi hn, Nat.add_comm]
  have q6 : (nI k ≤ nI m - nI j) ↔ j + k ≤ m := by
    rw [nle_lt, lt_subN hk hj hm]; omega
  simp only [q1, q2, q3, q4, q5, q6]
  by_cases b1 : n < i + k
  · rw [if_pos b1]
    by_cases b2 : n < i
    · rw [if_pos b2]; exact EqC.now R
    rw [if_neg b2]
    by_cases b3 : m < j
    · rw [if_pos b3]; exact EqC.now R
    rw [if_neg b3, if_pos b1]; exact EqC.now R
  rw [if_neg b1, if_neg (show ¬ n < i by omega)]
  by_cases b4 : j + k ≤ m
  rotate_left
  · rw [if_neg b4]
    by_cases b3 : m < j
    · rw [if_pos b3]; exact EqC.now R
    rw [if_neg b3, if_neg b1, if_neg b4]; exact EqC.now R
  rw [if_pos b4, if_neg (show ¬ m < j by omega), if_neg b1, if_pos b4, if_pos (cpb_ok (by omega) (by omega) (by omega) (by omega)), show (40 : Int32) * nI s = nI (40 * s) from pk_mul 40 s, show (40 : Int32) * nI t = nI (40 * t) from pk_mul 40 t, nI_add, nI_add]
  obtain ⟨z, z1, z2, z3, z4⟩ := m_cpy (s := 40 * s + i) (d := 40 * t + j) (n := k) (by omega) (by omega) (by omega) M
  refine ⟨nI k, _, z.2, rfl, by rw [z1, ← z2], R.sheets ?_ ?_ ?_ ?_ ?_⟩
  · intro a _ h2; simp (disch := omega) only [m_cpr]
  · simp (disch := omega) only [m_cpr]
  · intro a _ h2; rw [z3 a (by omega)]
  · intro j hj; rw [z3 0 (by omega)]
  · intro q hq
    obtain ⟨p1, p2, p3, p4, p5⟩ := R.shs q hq
    rw [z3 13 (by omega), z3 14 (by omega)]
    by_cases e : q = t
    · subst e
      simp (disch := omega) only [m_cpr]
      refine ⟨p1, p2, p3, p4, fun u hu => ?_⟩
      rw [show 81 + 2 * q = 80 + 2 * q + 1 from by omega, m_cpo, nI_clamp (by omega), nI_clamp (by omega), nI_clamp (by omega), z4]
      unfold va_cpy cpy1
      by_cases c : j ≤ u ∧ u < j + k
      · rw [if_pos c, if_pos (by omega), show 80 + 2 * s + 1 = 81 + 2 * s from by omega, e4 _ (by omega), show 40 * s + (i + (u - j)) = 40 * s + i + (40 * q + u - (40 * q + j)) from by omega]
      · rw [if_neg c, if_neg (by omega), show 80 + 2 * q + 1 = 81 + 2 * q from by omega]; exact p5 u hu
    · simp (disch := omega) only [m_cpr]
      refine ⟨p1, p2, p3, p4, fun u hu => ?_⟩
      rw [z4]
      unfold cpy1
      rw [if_neg (by omega)]
      exact p5 u hu
end
section
/-! ANOTHER WORLD: a gust or a wall as it is supposed; turned, lull, fence -/
def wW (w : hWd) (t : Nat) (v : Int32) : hWd := (w.1, upd w.2.1 t v, w.2.2)
def wB (w : hWd) (S : Int32) : hWd := (upd w.1 0 S, w.2)
theorem h_up2 (M : hMem) (k j : Nat) (v v' : Int32) : h_up (h_up M k j v) k j v' = h_up M k j v' := by
  funext a i
  unfold h_up
  by_cases h : a = k
  · by_cases h2 : i = j
    · simp only [if_pos h, if_pos h2]
    · simp only [if_pos h, if_neg h2, if_true]
  · simp only [if_neg h]
theorem h_upid (M : hMem) (k j : Nat) (v : Int32) (h : M k j = v) : h_up M k j v = M := by
  funext a i
  unfold h_up
  by_cases h1 : a = k
  · by_cases h2 : i = j
    · rw [if_pos h1]
      rw [if_pos h2, h1, h2, h]
    · rw [if_pos h1]
      rw [if_neg h2, h1]
  · rw [if_neg h1]
theorem wW_ok {w : hWd} (h : okW w) {t : Nat} {v : Int32} (hv : h_ib v 5) : okW (wW w t v) := by
  obtain ⟨h1, h2⟩ := h
  refine ⟨fun j hj => ?_, h2⟩
  show h_ib (upd w.2.1 t v j) 5
  by_cases e : j = t
  · subst e; rw [u_s]; exact hv
  · rw [u_n e]; exact h1 j hj
theorem wB_ok {w : hWd} (h : okW w) (S : Int32) : okW (wB w S) := h
theorem MX.way {w : hWd} {T : Nat} {X : hMem} (h : MX w T X) (t : Nat) (v : Int32) : MX (wW w t v) T (h_up X 45 t v) := by
  obtain ⟨h1, h2, h3, h4, h5, h6, h7, h8, h9, h10⟩ := h
  refine ⟨?_, ?_, ?_, ?_, ?_, fun j hj => ?_, h7, ?_, ?_, ?_⟩
  · rw [m_row (by omega)]; exact h1
  · rw [m_row (by omega)]; exact h2
  · rw [m_row (by omega)]; exact h3
  · rw [m_row (by omega)]; exact h4
  · rw [m_row (by omega)]; exact h5
  · rw [m_row (k := 45) (a := 46) (by omega), m_own]
    refine ⟨?_, (h6 j hj).2⟩
    show upd (X 45) t v j = upd w.2.1 t v j
    by_cases e : j = t
    · subst e; rw [u_s, u_s]
    · rw [u_n e, u_n e]; exact (h6 j hj).1
  · rw [m_row (by omega)]; exact h8
  · rw [m_row (by omega), m_row (by omega)]; exact h9
  · rw [m_row (by omega), m_row (by omega)]; exact h10
theorem wWW (w : hWd) (t : Nat) (v : Int32) : wW (wW w t v) t (w.2.1 t) = w := by
  obtain ⟨a, b, c⟩ := w
  unfold wW
  have : upd (upd b t v) t (b t) = b := by
    funext j
    by_cases e : j = t
    · subst e; rw [u_s]
    · rw [u_n e, u_n e]
  simp only [this]
theorem wBB (w : hWd) (S : Int32) : wB (wB w S) (w.1 0) = w := by
  obtain ⟨a, c⟩ := w
  unfold wB
  have : upd (upd a 0 S) 0 (a 0) = a := by
    funext j
    by_cases e : j = 0
    · subst e; rw [u_s]
    · rw [u_n e, u_n e]
  simp only [this]
theorem MX.wall {w : hWd} {T : Nat} {X : hMem} (h : MX w T X) (S : Int32) : MX (wB w S) T (h_up X 40 0 S) := by
  obtain ⟨h1, h2, h3, h4, h5, h6, h7, h8, h9, h10⟩ := h
  refine ⟨?_, ?_, ?_, ?_, ?_, fun j hj => ?_, h7, ?_, ?_, ?_⟩
  · rw [m_own, u_s]; exact (u_s w.1 0 S).symm
  · rw [m_own, u_n (by omega)]; exact h2.trans (u_n (f := w.1) (k := 0) (x := S) (by omega)).symm
  · rw [m_own, u_n (by omega)]; exact h3.trans (u_n (f := w.1) (k := 0) (x := S) (by omega)).symm
  · rw [m_own, u_n (by omega)]; exact h4
  · rw [m_own, u_n (by omega)]; exact h5
  · rw [m_row (by omega), m_row (by omega)]; exact h6 j hj
  · rw [m_own, u_n (by omega)]; exact h8
  · rw [m_row (by omega), m_row (by omega)]; exact h9
  · rw [m_row (by omega), m_row (by omega)]; exact h10
theorem MM.way {w : hWd} {h : Nat} {c e : Nat → Int32} {M : hMem} (m : MM w h c e M) (t : Nat) (v : Int32) : MM (wW w t v) h c e (h_up M 2 t v) := by
  obtain ⟨h1, h2, h3, h4, h5, ⟨r, h6, h7, h8⟩, h9⟩ := m
  refine ⟨h1, ?_, fun j hj => ?_, ?_, ?_, ⟨r, h6, ?_, ?_⟩, h9⟩
  · rw [m_row (by omega)]; exact h2
  · rw [m_row (k := 2) (a := 3) (by omega), m_own]
    refine ⟨?_, (h3 j hj).2⟩
    show upd (M 2) t v j = upd w.2.1 t v j
    by_cases e : j = t
    · subst e; rw [u_s, u_s]
    · rw [u_n e, u_n e]; exact (h3 j hj).1
  · rw [m_row (by omega)]; exact h4
  · rw [m_row (by omega)]; exact h5
  · rw [m_row (by omega)]; exact h7
  · rw [m_row (by omega), m_row (by omega)]; exact h8
theorem MM.wall {w : hWd} {h : Nat} {c e : Nat → Int32} {M : hMem} (m : MM w h c e M) (S : Int32) : MM (wB w S) h c e (h_up M 1 0 S) := by
  obtain ⟨h1, h2, h3, h4, h5, ⟨r, h6, h7, h8⟩, h9⟩ := m
  refine ⟨h1, fun k hk => ?_, ?_, ?_, ?_, ⟨r, h6, ?_, ?_⟩, h9⟩
  · rw [m_own]
    show upd (M 1) 0 S k = upd w.1 0 S k
    by_cases e : k = 0
    · subst e; rw [u_s, u_s]
    · rw [u_n e, u_n e]; exact h2 k hk
  · rw [m_row (by omega), m_row (by omega)]; exact h3
  · rw [m_row (by omega)]; exact h4
  · rw [m_row (by omega)]; exact h5
  · rw [m_row (by omega)]; exact h7
  · rw [m_row (by omega), m_row (by omega)]; exact h8
def kO (X X' : hMem) : Prop := ∀ a, a < 40 ∨ 55 < a → ¬ (59 ≤ a ∧ a < 80 ∧ a % 4 = 3) → X' a = X a
theorem kO.tr {X Y Z : hMem} (h : kO X Y) (g : kO Y Z) : kO X Z := fun a h1 h2 => (g a h1 h2).trans (h a h1 h2)
theorem kP.O {X Y : hMem} (h : kP X Y) : kO X Y := fun a h1 h2 => h a (by omega) h2
theorem kO.X {X Y : hMem} (h : kO X Y) : keepX X Y := by
  refine ⟨fun a ha => ?_, ?_⟩
  · unfold kX at ha; exact h a (by omega) (by omega)
  · rw [h 30 (by omega) (by omega)]
theorem kO.up (X : hMem) {k : Nat} (hk : 40 ≤ k) (hk2 : k ≤ 55) (j : Nat) (v : Int32) : kO X (h_up X k j v) := fun a h1 _ => m_row (by omega)
theorem had_w {w : hWd} {T h p q l c0 pace reach : Nat} {c e : Nat → Int32} {X N : hMem} (ok : okW w) (mx : MX w T X) (h5 : X 40 5 = nI (stN (q, l))) (hq : q < 32) (hl : l < 3) (mm : MM w h c e N) (h0 : N 0 39 = 0) (n6 : N 6 h = nI q) (n7 : N 7 h = nI l) (hp : p < 4) (c1 : c0 < 32) (p1 : pace ≤ 4) (e1 : reach ≤ 3) (y0 : X (11 + p) 0 = nI c0) (y1 : X (11 + p) 1 = nI pace) (y2 : X (11 + p) 2 = nI reach) (m0 : N 8 (3 * p) = nI c0) (m1 : N 8 (3 * p + 1) = nI pace) (m2 : N 8 (3 * p + 2) = nI reach) : ∃ (o : Option Nat) (X' N' : hMem), fX8_hadBy (11 + p) X = some (ansI o, X') ∧ fX10_hadBy (nI h) (nI p) N = some (ansI o, N') ∧ okO o ∧ kP X X' ∧ kQ N N' ∧ X' 40 = X 40 := by
  obtain ⟨X2, f1, f2, f3⟩ := x_hadBy ok mx (s := (q, l)) h5 hq hl hp c1 p1 e1 y0 y1 y2
  obtain ⟨M2, g1, g2, g3⟩ := m_hadBy ok mm h0 hq hl n6 n7 hp c1 p1 e1 m0 m1 m2
  exact ⟨_, X2, M2, f1, g1, hadS_ok (by omega), fun a h1 h2 => f2 a (by omega) (by omega) h2, g2, f2 40 (by omega) (by omega) (by omega)⟩
theorem stepS_way {w : hWd} {t j : Nat} {v : Int32} (h : j ≠ t) (s : Nat × Nat) : stepS (wW w t v) j s = stepS w j s := by
  unfold stepS
  simp only [show (wW w t v).1 = w.1 from rfl, show (wW w t v).2.2 = w.2.2 from rfl, show (wW w t v).2.1 j = w.2.1 j from u_n h]
theorem runS_way {hl : Nat → Bool} {w : hWd} {t a : Nat} {v : Int32} {s : Nat × Nat} : ∀ {n : Nat}, a + n ≤ t → runS hl (wW w t v) a n s = runS hl w a n s
  | 0, _ => rfl
  | n + 1, h => by
    rw [runS_s, runS_s, runS_way (n := n) (by omega), stepS_way (by omega)]
theorem or_z (x : Int32) : x ||| 0 = x := by
  apply b_ext
  intro i _
  rw [b_or, b_0, Bool.or_false]
theorem eq_turned {X M : hMem} (R : RR X M) (a b c : Int32) : EqC (fX9_turned a b c X) (fX10_turned a b c M) := by
  obtain ⟨H, hH, hx, hm⟩ := R.hats
  unfold fX9_turned fX10_turned
  rw [xe_hat hx (by omega), me_hat hm (by omega), xe_sec, me_in23, xe_sq, me_sq]
  simp only [b01]
  by_cases ha : h_ib a H
  rotate_left
  · simp only [if_neg ha]; exact EqC.now R
  by_cases hb : h_ib b 24
  rotate_left
  · simp only [if_pos ha, if_neg hb]; exact EqC.now R
  by_cases hc : h_ib c 32
  rotate_left
  · simp only [if_pos ha, if_pos hb, if_neg hc]; exact EqC.now R
  simp only [if_pos ha, if_pos hb, if_pos hc]
  obtain ⟨h, h1, h2, rfl⟩ := ib_ex ha
  obtain ⟨t, t1, t2, rfl⟩ := ib_ex hb
  obtain ⟨r, q, l, X1, r1, q1, l1, ok, mm, q2, l2, x1, x2, x3, x4, -, -⟩ := R.ctx hH h1
  rw [x1, Option.bind_some, x3]
  obtain ⟨X2, y1, y2⟩ := x_later ok x2 (a := 0) (b := t) (s := (q, l)) (by omega) (by omega) q1 l1
  rw [Nat.sub_zero] at y1
  have hL := runS_lt (hl := noH) (w := wOf X M h r) (a := 0) (s := (q, l)) q1 l1 t
  rw [show fX8_later (nI (stN (q, l))) 0 (nI t) X1 = _ from y1, Option.bind_some]
  dsimp only
  have oX : kO X X2 := fun a h1 h2 => (y2 a (by omega) h2).trans (x4 a h1)
  have mx2 := x2.kT y2
  have w2 : (wOf X M h r).2.1 = M 2 := rfl
  generalize wOf X M h r = w at *
  refine EqC.of (lp20 (body := fX9_turned_L57 (nI t) c (nI (stN (runS noH w 0 t (q, l))))) (body' := fX10_turned_L45 (nI h) (nI t) c (M 2 (nI t).toNatClampNeg)) 5 (fun i s s' => ∃ (v : Int32) (Y N : hMem), s = (v, nI i, Y) ∧ s' = (v, nI i, N) ∧ kO X Y ∧ MX w r (h_up Y 45 t (w.2.1 t)) ∧ kQ M (h_up N 2 t (M 2 t))) EqQ _ _ ⟨0, X2, M, rfl, rfl, oX, by rw [h_upid _ _ _ _ (mx2.2.2.2.2.2.1 t t1).1]; exact mx2, by rw [h_upid _ _ _ _ rfl]; exact kQ.rf M⟩ (by omega) ?_ ?_)
  · rintro k k' s s' ⟨v, Y, N, rfl, rfl, oY, mY, kN⟩
    unfold fX9_turned_L57 fX10_turned_L45
    dsimp only
    rw [if_pos (show (4 : Int32) < nI 5 from by decide), if_pos (show (4 : Int32) < nI 5 from by decide), if_pos hb, nI_clamp t2]
    exact ⟨_, _, rfl, rfl, rfl, R.keep oY.X kN.keep⟩
  · rintro k k' i s s' hi ⟨v, Y, N, rfl, rfl, oY, mY, kN⟩ hk
    unfold fX9_turned_L57 fX10_turned_L45
    dsimp only
    rw [if_neg (show ¬ (4 : Int32) < nI i from nI_nlt (a := 4) (by omega) (by omega)), if_neg (show ¬ (4 : Int32) < nI i from nI_nlt (a := 4) (by omega) (by omega)), if_pos hb, if_pos hb, nI_clamp t2]
    have hv5 : h_ib (nI i) 5 := ib_mk hi (by omega)
    have mx := mY.way t (nI i)
    rw [h_up2] at mx
    have mN := (mm.kQ kN).way t (nI i)
    rw [h_up2] at mN
    obtain ⟨X3, z1, z2⟩ := x_later (wW_ok ok hv5) mx (a := t) (b := 24) (s := runS noH w 0 t (q, l)) (by omega) (by omega) hL.1 hL.2
    have hL3 := runS_lt (hl := noH) (w := wW w t (nI i)) (a := t) hL.1 hL.2 (24 - t)
    have e0 : h_up N 2 t (nI i) 0 39 = 0 := by
      rw [m_row (by omega)]
      have := kN.2 39 (by omega) (by omega)
      rw [m_row (by omega)] at this
      rw [this]; exact R.hold
    have n6 : h_up N 2 t (nI i) 6 h = nI q := by
      have := kN.1 6 (by omega)
      rw [m_row (by omega)] at this ⊢
      rw [this]; exact q2
    have n7 : h_up N 2 t (nI i) 7 h = nI l := by
      have := kN.1 7 (by omega)
      rw [m_row (by omega)] at this ⊢
      rw [this]; exact l2
    obtain ⟨N3, g1, g2, -⟩ := m_behind (wW_ok ok hv5) mN (n := 24) (by omega) q1 l1 n6 n7
    have hld : hldM (h_up N 2 t (nI i)) = noH := funext fun j => hldM_0 e0 j
    rw [hld] at g1
    rw [show fX8_later (nI (stN (runS noH w 0 t (q, l)))) (nI t) 24 (h_up Y 45 t (nI i)) = _ from z1, Option.bind_some, show fX10_squareBehind (nI h) 24 (h_up N 2 t (nI i)) = _ from g1, Option.bind_some]
    dsimp only
    have er : runS noH (wW w t (nI i)) 0 24 (q, l) = runS noH (wW w t (nI i)) t (24 - t) (runS noH w 0 t (q, l)) := by
      have := runS_add noH (wW w t (nI i)) 0 (q, l) t (24 - t)
      rw [show t + (24 - t) = 24 from by omega, runS_way (t := t) (a := 0) (n := t) (by omega), Nat.zero_add] at this
      exact this
    rw [x_sqS hL3.1 hL3.2, er, nI_1]
    have oY' : kO X X3 := oY.tr ((kO.up Y (by omega) (by omega) t (nI i)).tr z2.P.O)
    have mY' : MX w r (h_up X3 45 t (w.2.1 t)) := by
      have := (mx.kT z2).way t (w.2.1 t)
      rw [wWW] at this
      exact this
    have kN' : kQ M (h_up N3 2 t (M 2 t)) := by
      refine kN.tr ⟨fun a ha => ?_, fun j hj1 hj2 => ?_⟩
      · by_cases e : a = 2
        · subst e
          rw [m_own, m_own, g2.1 2 (by omega) (by omega) (by omega), m_own]
          funext j
          by_cases e : j = t
          · subst e; rw [u_s, u_s]
          · rw [u_n e, u_n e, u_n e]
        · rw [m_row e, m_row e, g2.1 a (by omega) (by omega) (by omega), m_row e]
      · rw [m_row (by omega), m_row (by omega), g2.2 j hj1 hj2, m_row (by omega)]
    by_cases hs : nI (runS noH (wW w t (nI i)) t (24 - t) (runS noH w 0 t (q, l))).1 = c
    · rw [if_pos hs, if_pos hs]
      exact hk _ _ ⟨_, X3, N3, rfl, rfl, oY', mY', kN'⟩
    · rw [if_neg hs, if_neg hs, or_z]
      exact hk _ _ ⟨_, X3, N3, rfl, rfl, oY', mY', kN'⟩
end
section
/-! LULL, FENCE -/
theorem eq_lull {X M : hMem} (R : RR X M) (a b c : Int32) : EqC (fX9_lull a b c X) (fX10_lull a b c M) := by
  obtain ⟨H, hH, hx, hm⟩ := R.hats
  obtain ⟨C, hC, cx, cm⟩ := R.cats
  unfold fX9_lull fX10_lull
  rw [pair_x hx cx (by omega) (by omega), there_m hm cm (by omega) (by omega), me_in1, b01]
  by_cases ha : h_ib a H
  rotate_left
  · simp only [if_neg ha]
    rw [if_neg (by decide), if_pos trivial]; exact EqC.now R
  by_cases hb : h_ib b C
  rotate_left
  · simp only [if_pos ha, if_neg hb]
    rw [if_neg (by decide), if_pos trivial]; exact EqC.now R
  by_cases hc : h_ib c 2
  rotate_left
  · simp only [if_pos ha, if_pos hb, if_neg hc]
    rw [if_neg (by decide), if_neg (by decide)]; exact EqC.now R
  simp only [if_pos ha, if_pos hb, if_pos hc]
  rw [if_pos trivial, if_neg (by decide)]
  obtain ⟨h, h1, h2, rfl⟩ := ib_ex ha
  obtain ⟨p, p1, p2, rfl⟩ := ib_ex hb
  obtain ⟨r, q, l, X1, r1, q1, l1, ok, mm, q2, l2, x1, x2, x3, x4, -, -⟩ := R.ctx hH h1
  obtain ⟨c0, pa, re, c1, pp1, e1, m0, m1, m2, y0, y1, y2⟩ := R.cctx (p := p) (by omega)
  have hp4 : p < 4 := by omega
  obtain ⟨o, X2, N2, f1, f2, f3, f4, f5, f6⟩ := had_w ok x2 x3 q1 l1 mm R.hold q2 l2 hp4 c1 pp1 e1 (by rw [x4 _ (by omega)]; exact y0) (by rw [x4 _ (by omega)]; exact y1) (by rw [x4 _ (by omega)]; exact y2) m0 m1 m2
  unfold fX9_hadNow
  rw [x1, Option.bind_some, if_pos (ib_mk hp4 (by decide)), nI_clamp (by omega), f1, Option.bind_some, f2, Option.bind_some]
  dsimp only
  have oX : kO X X2 := fun a h1 h2 => (f4 a (by omega) h2).trans (x4 a h1)
  have mx2 := x2.kP f4
  have x25 : X2 40 5 = nI (stN (q, l)) := by rw [f6]; exact x3
  have w2 : (wOf X M h r).2.1 = M 2 := rfl
  generalize wOf X M h r = w at *
  refine EqC.of (lp20 (body := fX9_lull_L31 (nI p) c) (body' := fX10_lull_L38 (nI h) (nI p) c) 24 (fun i s s' => ∃ (v : Int32) (f : Option Nat) (Y N : hMem), s = (ansI f, v, nI i, Y) ∧ s' = (v, ansI f, nI i, N) ∧ okO f ∧ kO X Y ∧ MX w r Y ∧ Y 40 5 = nI (stN (q, l)) ∧ kQ M N) EqQ _ _ ⟨-1, o, X2, N2, rfl, rfl, f3, oX, mx2, x25, f5⟩ (by omega) ?_ ?_)
  · rintro k k' s s' ⟨v, f, Y, N, rfl, rfl, of, oY, mY, h5, kN⟩
    unfold fX9_lull_L31 fX10_lull_L38
    dsimp only
    rw [if_pos (show (24 : Int32) ≤ nI 24 from by decide), if_pos (show (24 : Int32) ≤ nI 24 from by decide)]
    have R' := R.keep oY.X kN.keep
    by_cases ec : c = 0
    · rw [if_pos ec, if_pos ec]; exact ⟨_, _, rfl, rfl, rfl, R'⟩
    · rw [if_neg ec, if_neg ec]; exact ⟨_, _, rfl, rfl, rfl, R'⟩
  · rintro k k' i s s' hi ⟨v, f, Y, N, rfl, rfl, of, oY, mY, h5, kN⟩ hk
    unfold fX9_lull_L31 fX10_lull_L38 fX10_lull_L100
    dsimp only
    have hi24 : h_ib (nI i) 24 := ib_mk hi (by omega)
    rw [if_neg (show ¬ (24 : Int32) ≤ nI i from nI_ge (b := 24) hi (by decide)), if_neg (show ¬ (24 : Int32) ≤ nI i from nI_ge (b := 24) hi (by decide))]
    simp only [if_pos hi24, if_pos (show h_ib (nI p) 4 from ib_mk hp4 (by omega)), nI_clamp (show i < 2 ^ 31 by omega), nI_clamp p2]
    have hv5 : h_ib 4 5 := ib_mk (j := 4) (by omega) (by omega)
    have mx := mY.way i 4
    have mN := (mm.kQ kN).way i 4
    obtain ⟨o', X3, N3, g1, g2, g3, g4, g5, g6⟩ := had_w (wW_ok ok hv5) mx (by rw [m_row (by omega)]; exact h5) q1 l1 mN (by rw [m_row (by omega), kN.2 39 (by omega) (by omega)]; exact R.hold) (by rw [m_row (by omega), kN.1 6 (by omega)]; exact q2) (by rw [m_row (by omega), kN.1 7 (by omega)]; exact l2) hp4 c1 pp1 e1 (by rw [m_row (by omega), oY _ (by omega) (by omega)]; exact y0) (by rw [m_row (by omega), oY _ (by omega) (by omega)]; exact y1) (by rw [m_row (by omega), oY _ (by omega) (by omega)]; exact y2) (by rw [m_row (by omega), kN.1 8 (by omega)]; exact m0) (by rw [m_row (by omega), kN.1 8 (by omega)]; exact m1) (by rw [m_row (by omega), kN.1 8 (by omega)]; exact m2)
    rw [g1, Option.bind_some, g2, Option.bind_some]
    dsimp only
    have eX3 : X3 3 i = w.2.1 i := by
      rw [g4 3 (by omega) (by omega), m_row (by omega), oY 3 (by omega) (by omega), w2]; exact (R.gust hi).1
    have oY' : kO X (h_up X3 45 i (X3 3 i)) := oY.tr ((kO.up Y (by omega) (by omega) i 4).tr (g4.O.tr (kO.up X3 (by omega) (by omega) i _)))
    have mY' : MX w r (h_up X3 45 i (X3 3 i)) := by
      have := (mx.kP g4).way i (w.2.1 i)
      rw [wWW] at this
      rw [eX3]
      exact this
    have h5' : (h_up X3 45 i (X3 3 i)) 40 5 = nI (stN (q, l)) := by
      rw [m_row (by omega), g6, m_row (by omega)]; exact h5
    have kN' : kQ M (h_up N3 2 i (N 2 i)) := by
      refine kN.tr ⟨fun a ha => ?_, fun j hj1 hj2 => ?_⟩
      · by_cases e : a = 2
        · subst e
          rw [m_own, g5.1 2 (by omega), m_own]
          funext j
          by_cases e : j = i
          · subst e; rw [u_s]
          · rw [u_n e, u_n e]
        · rw [m_row e, g5.1 a ha, m_row e]
      · rw [m_row (by omega), g5.2 j hj1 hj2, m_row (by omega)]
    generalize h_up X3 45 i (X3 3 i) = Y' at *
    generalize h_up N3 2 i (N 2 i) = N' at *
    rw [x_sooner g3 of, m_sooner g3 of, b01, b01, nI_1]
    by_cases hs : soon o' f = true
    · simp only [if_pos hs, if_neg (show ¬ (1 : Int32) = 0 from by decide)]
      exact hk _ _ ⟨_, o', Y', N', rfl, rfl, g3, oY', mY', h5', kN'⟩
    · simp only [if_neg hs, if_true]
      exact hk _ _ ⟨_, f, Y', N', rfl, rfl, of, oY', mY', h5', kN'⟩
theorem eq_fence {X M : hMem} (R : RR X M) (a b c : Int32) : EqC (fX9_fence a b c X) (fX10_fence a b c M) := by
  obtain ⟨H, hH, hx, hm⟩ := R.hats
  obtain ⟨C, hC, cx, cm⟩ := R.cats
  unfold fX9_fence fX10_fence
  rw [pair_x hx cx (by omega) (by omega), there_m hm cm (by omega) (by omega), me_in1, b01]
  by_cases ha : h_ib a H
  rotate_left
  · simp only [if_neg ha]
    rw [if_neg (by decide), if_pos trivial]; exact EqC.now R
  by_cases hb : h_ib b C
  rotate_left
  · simp only [if_pos ha, if_neg hb]
    rw [if_neg (by decide), if_pos trivial]; exact EqC.now R
  by_cases hc : h_ib c 2
  rotate_left
  · simp only [if_pos ha, if_pos hb, if_neg hc]
    rw [if_neg (by decide), if_neg (by decide)]; exact EqC.now R
  simp only [if_pos ha, if_pos hb, if_pos hc]
  rw [if_pos trivial, if_neg (by decide)]
  obtain ⟨h, h1, h2, rfl⟩ := ib_ex ha
  obtain ⟨p, p1, p2, rfl⟩ := ib_ex hb
  obtain ⟨r, q, l, X1, r1, q1, l1, ok, mm, q2, l2, x1, x2, x3, x4, -, -⟩ := R.ctx hH h1
  obtain ⟨c0, pa, re, c1, pp1, e1, m0, m1, m2, y0, y1, y2⟩ := R.cctx (p := p) (by omega)
  have hp4 : p < 4 := by omega
  obtain ⟨o, X2, N2, f1, f2, f3, f4, f5, f6⟩ := had_w ok x2 x3 q1 l1 mm R.hold q2 l2 hp4 c1 pp1 e1 (by rw [x4 _ (by omega)]; exact y0) (by rw [x4 _ (by omega)]; exact y1) (by rw [x4 _ (by omega)]; exact y2) m0 m1 m2
  unfold fX9_hadNow
  rw [x1, Option.bind_some, if_pos (ib_mk hp4 (by decide)), nI_clamp (by omega), f1, Option.bind_some, f2, Option.bind_some]
  dsimp only
  have oX : kO X X2 := fun a h1 h2 => (f4 a (by omega) h2).trans (x4 a h1)
  have mx2 := x2.kP f4
  have x25 : X2 40 5 = nI (stN (q, l)) := by rw [f6]; exact x3
  have R2 := R.keep oX.X f5.keep
  obtain ⟨S1, s1, s2⟩ := x_hatSq R2 hH (by rw [oX 1 (by omega) (by omega)]; exact hx)
  obtain ⟨S2, s3, s4⟩ := x_catSq R2 hC (by rw [oX 1 (by omega) (by omega)]; exact cx)
  rw [s1, Option.bind_some, s3, Option.bind_some]
  have w1 : (wOf X M h r).1 = M 1 := rfl
  have ew : X2 2 0 = M 1 0 := by rw [oX 2 (by omega) (by omega)]; exact R.setsE (k := 0) (by omega)
  have eM : N2 1 0 = M 1 0 := by rw [f5.1 1 (by omega)]
  rw [ew, Option.bind_some]
  dsimp only
  rw [eM]
  generalize wOf X M h r = w at *
  refine EqC.of (lp20 (body := fX9_fence_L58 (nI p) c (M 1 0 ||| S1 ||| S2)) (body' := fX10_fence_L46 (nI h) (nI p) c (M 1 0)) 32 (fun i s s' => ∃ (v : Int32) (f : Option Nat) (Y N : hMem), s = (ansI f, v, nI i, Y) ∧ s' = (v, ansI f, nI i, N) ∧ okO f ∧ kO X Y ∧ MX w r (h_up Y 40 0 (w.1 0)) ∧ Y 40 5 = nI (stN (q, l)) ∧ kQ M N) EqQ _ _ ⟨-1, o, X2, N2, rfl, rfl, f3, oX, by rw [h_upid _ _ _ _ mx2.1]; exact mx2, x25, f5⟩ (by omega) ?_ ?_)
  · rintro k k' s s' ⟨v, f, Y, N, rfl, rfl, of, oY, mY, h5, kN⟩
    unfold fX9_fence_L58 fX10_fence_L46
    dsimp only
    rw [if_pos (show (32 : Int32) ≤ nI 32 from by decide), if_pos (show (32 : Int32) ≤ nI 32 from by decide)]
    have R' := R.keep oY.X kN.keep
    by_cases ec : c = 0
    · rw [if_pos ec, if_pos ec]; exact ⟨_, _, rfl, rfl, rfl, R'⟩
    · rw [if_neg ec, if_neg ec]; exact ⟨_, _, rfl, rfl, rfl, R'⟩
  · rintro k k' i s s' hi ⟨v, f, Y, N, rfl, rfl, of, oY, mY, h5, kN⟩ hk
    unfold fX9_fence_L58 fX10_fence_L46 fX10_fence_L122
    dsimp only
    rw [if_neg (show ¬ (32 : Int32) ≤ nI i from nI_ge (b := 32) hi (by decide)), if_neg (show ¬ (32 : Int32) ≤ nI i from nI_ge (b := 32) hi (by decide)), bit_u _ hi, b01, me_has0 hi, Option.bind_some, b01, b_or, b_or]
    have RN := R.keep (keepX.rf X) kN.keep
    have n10 : N 1 0 = M 1 0 := by rw [kN.1 1 (by omega)]
    have n03 : N 0 3 = nI H := by rw [kN.2 3 (by omega) (by omega)]; exact hm
    have n08 : N 0 8 = nI C := by rw [kN.2 8 (by omega) (by omega)]; exact cm
    obtain ⟨ra, ra1, ra2⟩ := m_anyIn RN hH hC n03 n08 hi
    have hi1 : hatIn H N2 i ↔ hatIn H N i := by unfold hatIn; rw [kN.1 6 (by omega), f5.1 6 (by omega)]
    have hi2 : catIn C N2 i ↔ catIn C N i := by unfold catIn; rw [kN.1 8 (by omega), f5.1 8 (by omega)]
    have t1 := s2 i hi
    have t2 := s4 i hi
    rw [hi1] at t1
    rw [hi2] at t2
    rw [n10, ra1, Option.bind_some]
    by_cases hw : bt (M 1 0) i = true
    · rw [if_pos hw, if_pos (by rw [hw]; rfl), nI_1]
      exact hk _ _ ⟨v, f, Y, N, rfl, rfl, of, oY, mY, h5, kN⟩
    rw [if_neg hw]
    rcases ra2 with ⟨rfl, r3⟩ | ⟨rfl, r3⟩
    · rw [if_pos (by rw [Bool.or_eq_true, Bool.or_eq_true, t1, t2]; exact r3.elim (fun h => Or.inl (Or.inr h)) Or.inr), if_neg (show ¬ (1 : Int32) = 0 from by decide), nI_1]
      exact hk _ _ ⟨v, f, Y, N, rfl, rfl, of, oY, mY, h5, kN⟩
    rw [if_neg (by rw [Bool.or_eq_true, Bool.or_eq_true, t1, t2]; exact fun h => h.elim (fun h => h.elim hw (fun h => r3 (Or.inl h))) (fun h => r3 (Or.inr h))), if_pos rfl, if_pos (show h_ib (nI p) 4 from ib_mk hp4 (by omega)), nI_clamp p2, show Y 2 0 = M 1 0 from by rw [oY 2 (by omega) (by omega)]; exact R.setsE (k := 0) (by omega)]
    generalize M 1 0 ||| 1 <<< (nI i &&& 31) = W
    have mx := mY.wall W
    rw [h_up2] at mx
    have mN := (mm.kQ kN).wall W
    obtain ⟨o', X3, N3, g1, g2, g3, g4, g5, g6⟩ := had_w (wB_ok ok W) mx (by rw [m_own, u_n (by omega)]; exact h5) q1 l1 mN (by rw [m_row (by omega), kN.2 39 (by omega) (by omega)]; exact R.hold) (by rw [m_row (by omega), kN.1 6 (by omega)]; exact q2) (by rw [m_row (by omega), kN.1 7 (by omega)]; exact l2) hp4 c1 pp1 e1 (by rw [m_row (by omega), oY _ (by omega) (by omega)]; exact y0) (by rw [m_row (by omega), oY _ (by omega) (by omega)]; exact y1) (by rw [m_row (by omega), oY _ (by omega) (by omega)]; exact y2) (by rw [m_row (by omega), kN.1 8 (by omega)]; exact m0) (by rw [m_row (by omega), kN.1 8 (by omega)]; exact m1) (by rw [m_row (by omega), kN.1 8 (by omega)]; exact m2)
    rw [g1, Option.bind_some, g2, Option.bind_some]
    dsimp only
    have oY' : kO X X3 := oY.tr ((kO.up Y (by omega) (by omega) 0 W).tr g4.O)
    have mY' : MX w r (h_up X3 40 0 (w.1 0)) := by
      have := (mx.kP g4).wall (w.1 0)
      rw [wBB] at this
      exact this
    have h5' : X3 40 5 = nI (stN (q, l)) := by
      rw [g6, m_own, u_n (by omega)]; exact h5
    have kN' : kQ M (h_up N3 1 0 (M 1 0)) := by
      refine kN.tr ⟨fun a ha => ?_, fun j hj1 hj2 => ?_⟩
      · by_cases e : a = 1
        · subst e
          rw [m_own, g5.1 1 (by omega), m_own]
          funext j
          by_cases e : j = 0
          · subst e; rw [u_s, n10]
          · rw [u_n e, u_n e]
        · rw [m_row e, g5.1 a ha, m_row e]
      · rw [m_row (by omega), g5.2 j hj1 hj2, m_row (by omega)]
    generalize h_up N3 1 0 (M 1 0) = N' at *
    rw [x_sooner g3 of, m_sooner g3 of, b01, b01, nI_1]
    by_cases hs : soon o' f = true
    · simp only [if_pos hs, if_neg (show ¬ (1 : Int32) = 0 from by decide)]
      exact hk _ _ ⟨_, o', X3, N', rfl, rfl, g3, oY', mY', h5', kN'⟩
    · simp only [if_neg hs, if_true]
      exact hk _ _ ⟨_, f, X3, N', rfl, rfl, of, oY', mY', h5', kN'⟩
end
section
/-! SHEETS THAT ARE JUDGED: judge, whose, lay -/
def difP (f : Nat → Int32) (w : hWd) (s : Nat × Nat) (j : Nat) : Bool := !decide (f j = nI (runS noH w 0 j s).1)
def difS (f : Nat → Int32) (w : hWd) (s : Nat × Nat) (n : Nat) : Option Nat := frst (difP f w s) n 0
theorem difS_ok {f : Nat → Int32} {w : hWd} {s : Nat × Nat} {n : Nat} (hn : n ≤ 25) : okO (difS f w s n) := fun k hk => by
  have := frst_lt hk; omega
theorem difS_c {f g : Nat → Int32} {w : hWd} {s : Nat × Nat} {n : Nat} (h : ∀ j, j < n → f j = g j) : difS f w s n = difS g w s n := frst_c (fun j _ h2 => by unfold difP; rw [h j (by omega)])
theorem ans_ge {o : Option Nat} (h : okO o) {α : Type} (A B : α) : (if 0 ≤ ansI o then A else B) = if o = none then B else A := by
  cases o with
  | none =>
    show (if (0 : Int32) ≤ -1 then A else B) = _
    rw [if_neg (show ¬ (0 : Int32) ≤ -1 from by decide), if_pos rfl]
  | some n =>
    show (if (0 : Int32) ≤ nI n then A else B) = _
    rw [if_pos (show (0 : Int32) ≤ nI n from nI_pos' (by have := h n rfl; omega)), if_neg (fun q => (by cases q))]
theorem ans_m1 {o : Option Nat} (h : okO o) {α : Type} (A B : α) : (if ansI o = -1 then A else B) = if o = none then A else B := by
  cases o with
  | none =>
    show (if (-1 : Int32) = -1 then A else B) = _
    rw [if_pos (show (-1 : Int32) = -1 from rfl), if_pos rfl]
  | some n =>
    show (if nI n = -1 then A else B) = _
    rw [if_neg (show ¬ nI n = -1 from n_m1 (by have := h n rfl; omega)), if_neg (fun q => (by cases q))]
theorem x_else {w : hWd} {T : Nat} {X : hMem} (hw : okW w) (mx : MX w T X) {sh n : Nat} (hs : sh < 4) (hn : n ≤ 25) (e1 : X (80 + 2 * sh) 1 = nI n) {s : Nat × Nat} (h1 : s.1 < 32) (h2 : s.2 < 3) : ∃ X', fX8_elsewhere (80 + 2 * sh) (nI (stN s)) X = some (ansI (difS (X (81 + 2 * sh)) w s n), X') ∧ kT X X' := by
  unfold fX8_elsewhere
  rw [if_pos (sh_isB hs)]
  refine Exists.elim (lp_u0 (body := fX8_elsewhere_L5 (80 + 2 * sh)) n (fun i z => ∃ (v : Int32) (Y : hMem), z = (v, nI i, Y) ∧ kT X Y ∧ (i ≤ 24 → v = nI (stN (runS noH w 0 i s))) ∧ frst (difP (X (81 + 2 * sh)) w s) (n - i) i = difS (X (81 + 2 * sh)) w s n) (fun r => r.1 = ansI (difS (X (81 + 2 * sh)) w s n) ∧ kT X r.2) (nI (stN s), 0, X) ⟨_, X, rfl, kT.rf X, fun _ => rfl, rfl⟩ (by omega) ?_ ?_) ?_
  · rintro k z ⟨v, Y, rfl, kY, hv, hf⟩
    unfold fX8_elsewhere_L5
    dsimp only
    simp only [show Y (80 + 2 * sh) 1 = nI n from by rw [kY (80 + 2 * sh) (by omega) (by omega), e1]]
    rw [if_pos (nI_le (Nat.le_refl _) (by omega))]
    rw [Nat.sub_self] at hf
    exact ⟨_, rfl, by rw [← hf]; rfl, kY⟩
  · rintro k i z hi ⟨v, Y, rfl, kY, hv, hf⟩ hk
    have ev := hv (by omega)
    subst ev
    have hL := runS_lt (hl := noH) (w := w) (a := 0) (s := s) h1 h2 i
    unfold fX8_elsewhere_L5
    dsimp only
    simp only [show Y (80 + 2 * sh) 1 = nI n from by rw [kY (80 + 2 * sh) (by omega) (by omega), e1], show 80 + 2 * sh + 1 = 81 + 2 * sh from by omega, show Y (81 + 2 * sh) = X (81 + 2 * sh) from kY _ (by omega) (by omega), nI_clamp (show i < 2 ^ 31 by omega), x_sqS hL.1 hL.2]
    rw [if_neg (nI_ge hi (by omega)), if_pos (ib_mk (by omega) (by omega))]
    rw [show n - i = (n - (i + 1)) + 1 from by omega, frst_s] at hf
    by_cases c : X (81 + 2 * sh) i = nI (runS noH w 0 i s).1
    · rw [if_pos c]
      rw [if_neg (by unfold difP; rw [decide_eq_true c]; decide)] at hf
      by_cases h24 : i < 24
      · obtain ⟨X', g1, g2⟩ := x_next hw (mx.kT kY) (t := i) (q := (runS noH w 0 i s).1) (l := (runS noH w 0 i s).2) h24 hL.1 hL.2
        rw [show fX8_next (nI i) (nI (stN (runS noH w 0 i s))) Y = _ from g1, Option.bind_some, nI_1]
        refine hk _ ⟨_, X', rfl, kY.tr g2, fun _ => ?_, hf⟩
        rw [runS_s]
        rw [if_neg (show ¬ noH (0 + i) = true from Bool.false_ne_true), Nat.zero_add]
      · have : i = 24 := by omega
        subst this
        unfold fX8_next
        rw [xe_sec, b01, if_neg (show ¬ h_ib (nI 24) 24 from fun h => absurd ((ib_iff (by omega)).mp h) (by omega)), Option.bind_some, nI_1]
        exact hk _ ⟨_, Y, rfl, kY, fun h => absurd h (by omega), hf⟩
    · rw [if_neg c]
      rw [if_pos (by unfold difP; rw [decide_eq_false c]; rfl)] at hf
      exact ⟨_, rfl, by rw [← hf]; rfl, kY⟩
  · rintro r ⟨r1, r2, r3⟩
    exact ⟨r.2, by rw [r1, ← r2], r3⟩
theorem m_unlike {w : hWd} {h : Nat} {c e : Nat → Int32} {M : hMem} (hw : okW w) (mm : MM w h c e M) (h0 : M 0 39 = 0) {sh n : Nat} (hs : sh < 4) (hn : n ≤ 25) (e1 : M 14 sh = nI n) {s : Nat × Nat} (h1 : s.1 < 32) (h2 : s.2 < 3) (h36 : M 0 36 = nI s.1) (h37 : M 0 37 = nI s.2) : ∃ M', fX10_unlike (nI sh) (nI h) M = some (ansI (difS (fun j => M 15 (40 * sh + j)) w s n), M') ∧ kS M M' := by
  unfold fX10_unlike
  refine Exists.elim (lp_u0 (body := fX10_unlike_L2 (nI sh) (nI h)) n (fun i z => ∃ (Y : hMem), z = (nI i, Y) ∧ kS M Y ∧ (i ≤ 24 → Y 0 36 = nI (runS noH w 0 i s).1 ∧ Y 0 37 = nI (runS noH w 0 i s).2) ∧ frst (difP (fun j => M 15 (40 * sh + j)) w s) (n - i) i = difS (fun j => M 15 (40 * sh + j)) w s n) (fun r => r.1 = ansI (difS (fun j => M 15 (40 * sh + j)) w s n) ∧ kS M r.2) (0, M) ⟨M, rfl, kS.rf M, fun _ => ⟨h36, h37⟩, rfl⟩ (by omega) ?_ ?_) ?_
  · rintro k z ⟨Y, rfl, kY, hv, hf⟩
    unfold fX10_unlike_L2
    dsimp only
    simp only [if_pos (show h_ib (nI sh) 4 from ib_mk hs (by omega)), nI_clamp (show sh < 2 ^ 31 by omega), show Y 14 sh = nI n from by rw [kY.1 14 (by omega) (by omega) (by omega), e1]]
    rw [if_pos (nI_le (Nat.le_refl _) (by omega))]
    rw [Nat.sub_self] at hf
    exact ⟨_, rfl, by rw [← hf]; rfl, kY⟩
  · rintro k i z hi ⟨Y, rfl, kY, hv, hf⟩ hk
    obtain ⟨v1, v2⟩ := hv (by omega)
    have hL := runS_lt (hl := noH) (w := w) (a := 0) (s := s) h1 h2 i
    unfold fX10_unlike_L2
    dsimp only
    simp only [if_pos (show h_ib (nI sh) 4 from ib_mk hs (by omega)), nI_clamp (show sh < 2 ^ 31 by omega), show Y 14 sh = nI n from by rw [kY.1 14 (by omega) (by omega) (by omega), e1], show (40 : Int32) * nI sh = nI (40 * sh) from pk_mul 40 sh, nI_add, nI_clamp (show 40 * sh + i < 2 ^ 31 by omega), show Y 15 = M 15 from kY.1 15 (by omega) (by omega) (by omega), v1]
    rw [if_neg (nI_ge hi (by omega)), if_pos (ib_mk (by omega) (by omega))]
    rw [show n - i = (n - (i + 1)) + 1 from by omega, frst_s] at hf
    by_cases c : M 15 (40 * sh + i) = nI (runS noH w 0 i s).1
    · rw [if_pos c]
      rw [if_neg (by unfold difP; rw [decide_eq_true c]; decide)] at hf
      by_cases h24 : i < 24
      · rw [if_neg (show ¬ (24 : Int32) ≤ nI i from nI_ge (b := 24) h24 (by decide))]
        obtain ⟨M', g1, g2, g3, g4⟩ := m_seconds hw (mm.kS kY) (t := i) (q := (runS noH w 0 i s).1) (l := (runS noH w 0 i s).2) h24 hL.1 hL.2 v1 v2
        have hld : hldM Y i = false := hldM_0 (by rw [kY.2 39 (by omega) (by omega)]; exact h0) i
        rw [hld] at g3 g4
        rw [g1, Option.bind_some, nI_1]
        refine hk _ ⟨M', rfl, kY.tr g2, fun _ => ?_, hf⟩
        rw [runS_s, if_neg (show ¬ noH (0 + i) = true from Bool.false_ne_true), Nat.zero_add]
        exact ⟨g3, g4⟩
      · have : i = 24 := by omega
        subst this
        rw [if_pos (show (24 : Int32) ≤ nI 24 from by decide), nI_1]
        exact hk _ ⟨Y, rfl, kY, fun h => absurd h (by omega), hf⟩
    · rw [if_neg c]
      rw [if_pos (by unfold difP; rw [decide_eq_false c]; rfl)] at hf
      exact ⟨_, rfl, by rw [← hf]; rfl, kY⟩
  · rintro r ⟨r1, r2, r3⟩
    exact ⟨r.2, by rw [r1, ← r2], r3⟩
theorem m_unlikeNow {w : hWd} {h : Nat} {c e : Nat → Int32} {M : hMem} (hw : okW w) (mm : MM w h c e M) (h0 : M 0 39 = 0) {sh n : Nat} (hs : sh < 4) (hn : n ≤ 25) (e1 : M 14 sh = nI n) {q l : Nat} (h1 : q < 32) (h2 : l < 3) (h6 : M 6 h = nI q) (h7 : M 7 h = nI l) : ∃ M', fX10_unlikeNow (nI sh) (nI h) M = some (ansI (difS (fun j => M 15 (40 * sh + j)) w (q, l) n), M') ∧ kS M M' := by
  unfold fX10_unlikeNow
  have kb := kS_b M (nI q) (nI l)
  rw [m_begins mm.1, Option.bind_some, h6, h7]
  obtain ⟨M', g1, g2⟩ := m_unlike hw (mm.kS kb) (by rw [kb.2 39 (by omega) (by omega)]; exact h0) hs hn (by rw [kb.1 14 (by omega) (by omega) (by omega)]; exact e1) (s := (q, l)) h1 h2 (by rw [m_own, u_n (by omega), m_own, u_s]) (by rw [m_own, u_s])
  rw [g1, Option.bind_some, kb.1 15 (by omega) (by omega) (by omega)]
  exact ⟨M', rfl, kb.tr g2⟩
theorem told_eq {X M : hMem} (R : RR X M) (a : Int32) : ∃ v, fX9_refusalOfTold a X = some v ∧ fX10_sheetWrong a M = some v ∧ (v = 0 → ∃ s n, s < 4 ∧ a = nI s ∧ n ≤ 25 ∧ X (80 + 2 * s) 1 = nI n ∧ M 14 s = nI n ∧ ∀ i, i < 40 → X (81 + 2 * s) i = M 15 (40 * s + i)) := by
  unfold fX9_refusalOfTold fX10_sheetWrong
  rw [xe_sheet, me_in3, b01, b01]
  by_cases ha : h_ib a 4
  rotate_left
  · rw [if_neg ha, if_neg ha]; exact ⟨-2, rfl, rfl, fun h => absurd h (by decide)⟩
  simp only [if_pos ha]
  obtain ⟨s, hs, hs2, rfl⟩ := ib_ex ha
  obtain ⟨n, hn, e0, e1, e2, e3, e4⟩ := R.shE hs
  rw [nI_clamp hs2, e0, e1, e2]
  by_cases c1 : M 13 s = -1
  · rw [if_pos c1]; exact ⟨-11, rfl, rfl, fun h => absurd h (by decide)⟩
  rw [if_neg c1]
  by_cases c2 : nI n ≤ (25 : Int32)
  · rw [if_pos c2]
    have hn2 : n ≤ 25 := (nI_leI (a := n) (b := 25) (by omega) (by omega)).mp c2
    exact ⟨0, rfl, rfl, fun _ => ⟨s, n, hs, rfl, hn2, e1, e2, e4⟩⟩
  · rw [if_neg c2]; exact ⟨-2, rfl, rfl, fun h => absurd h (by decide)⟩
theorem way_eq {X M : hMem} (R : RR X M) {H : Nat} (hH : H ≤ 4) (hx : X 1 5 = nI H) (hm : M 0 3 = nI H) (a b : Int32) : ∃ v, fX9_refusalOfWay a b X = some v ∧ fX10_toldWrong a b M = some v ∧ (v = 0 → ∃ s n h, s < 4 ∧ a = nI s ∧ n ≤ 25 ∧ X (80 + 2 * s) 1 = nI n ∧ M 14 s = nI n ∧ (∀ i, i < 40 → X (81 + 2 * s) i = M 15 (40 * s + i)) ∧ h < H ∧ b = nI h) := by
  obtain ⟨v, v1, v2, v3⟩ := told_eq R a
  unfold fX9_refusalOfWay fX10_toldWrong
  rw [v1, v2, Option.bind_some, Option.bind_some, xe_hat hx (by omega), me_hat hm (by omega), b01, b01]
  by_cases c : v = 0
  · obtain ⟨s, n, q1, q2, q3, q4, q5, q6⟩ := v3 c
    rw [if_pos c, if_pos c]
    by_cases hb : h_ib b H
    · rw [if_pos hb, if_pos hb, c]
      obtain ⟨h, h1, h2, h3⟩ := ib_ex hb
      exact ⟨0, rfl, rfl, fun _ => ⟨s, n, h, q1, q2, q3, q4, q5, q6, h1, h3⟩⟩
    · rw [if_neg hb, if_neg hb]; exact ⟨-5, rfl, rfl, fun h => absurd h (by decide)⟩
  · rw [if_neg c, if_neg c]; exact ⟨v, rfl, rfl, fun h => absurd h c⟩
/-- one hat judged -/
theorem judge1 {X M : hMem} (R : RR X M) {s n h H : Nat} (hH : H ≤ 4) (hs : s < 4) (hn : n ≤ 25) (e1 : X (80 + 2 * s) 1 = nI n) (e2 : M 14 s = nI n) (e4 : ∀ i, i < 40 → X (81 + 2 * s) i = M 15 (40 * s + i)) (hh : h < H) : ∃ (o : Option Nat) (X1 X' M' : hMem), fX9_think (nI h) X = some X1 ∧ fX8_elsewhere (80 + 2 * s) (X1 40 5) X1 = some (ansI o, X') ∧ fX10_unlikeNow (nI s) (nI h) M = some (ansI o, M') ∧ okO o ∧ keepX X X' ∧ keepM M M' := by
  obtain ⟨r, q, l, X1, r1, q1, l1, ok, mm, q2, l2, x1, x2, x3, x4, -, -⟩ := R.ctx hH hh
  obtain ⟨X2, f1, f2⟩ := x_else ok x2 hs hn (by rw [x4 _ (by omega)]; exact e1) (s := (q, l)) q1 l1
  obtain ⟨M2, g1, g2⟩ := m_unlikeNow ok mm R.hold hs hn e2 q1 l1 q2 l2
  refine ⟨_, X1, X2, M2, x1, by rw [x3]; exact f1, ?_, difS_ok hn, kP.X x4 f2.P, g2.keep⟩
  rw [g1, x4 (81 + 2 * s) (by omega)]
  rw [difS_c (fun j hj => (e4 j (by omega)).symm)]
theorem eq_judge {X M : hMem} (R : RR X M) (a b : Int32) : EqC (fX9_judge a b X) (fX10_judge a b M) := by
  obtain ⟨H, hH, hx, hm⟩ := R.hats
  obtain ⟨v, v1, v2, v3⟩ := way_eq R hH hx hm a b
  unfold fX9_judge fX10_judge
  rw [v1, v2, Option.bind_some, Option.bind_some]
  by_cases c : v = 0
  rotate_left
  · rw [if_neg c, if_neg c]; exact EqC.now R
  obtain ⟨s, n, h, hs, rfl, hn, e1, e2, e4, hh, rfl⟩ := v3 c
  obtain ⟨o, X1, X2, M2, x1, x2, x3, x4, x5, x6⟩ := judge1 R hH hs hn e1 e2 e4 hh
  rw [if_pos c, if_pos c, x1, Option.bind_some, if_pos (ib_mk hs (by omega)), nI_clamp (by omega), x2, x3, Option.bind_some, Option.bind_some]
  exact EqC.now (R.keep x5 x6)
theorem eq_whose {X M : hMem} (R : RR X M) (a : Int32) : EqC (fX9_whose a X) (fX10_whose a M) := by
  obtain ⟨H, hH, hx, hm⟩ := R.hats
  obtain ⟨v, v1, v2, v3⟩ := told_eq R a
  unfold fX9_whose fX10_whose
  rw [v1, v2, Option.bind_some, Option.bind_some]
  by_cases c : v = 0
  rotate_left
  · rw [if_neg c, if_neg c]; exact EqC.now R
  obtain ⟨s, n, hs, rfl, hn, e1, e2, e4⟩ := v3 c
  rw [if_pos c, if_pos c]
  refine EqC.of (lp20 (body := fX9_whose_L17 (nI s)) (body' := fX10_whose_L17 (nI s)) H (fun i z z' => ∃ (v : Int32) (Y N : hMem), z = (v, nI i, Y) ∧ z' = (v, nI i, N) ∧ keepX X Y ∧ keepM M N) EqQ _ _ ⟨0, X, M, rfl, rfl, keepX.rf X, keepM.rf M⟩ (by omega) ?_ ?_)
  · rintro k k' z z' ⟨v, Y, N, rfl, rfl, kY, kN⟩
    unfold fX9_whose_L17 fX10_whose_L17
    dsimp only
    simp only [show Y 1 5 = nI H from by rw [kY.1 1 (by unfold kX; omega), hx], show N 0 3 = nI H from by rw [kN.2 3 (by unfold kM0; omega), hm]]
    rw [if_pos (nI_le (Nat.le_refl _) (by omega)), if_pos (nI_le (Nat.le_refl _) (by omega))]
    exact ⟨_, _, rfl, rfl, rfl, R.keep kY kN⟩
  · rintro k k' i z z' hi ⟨v, Y, N, rfl, rfl, kY, kN⟩ hk
    unfold fX9_whose_L17 fX10_whose_L17
    dsimp only
    have R' := R.keep kY kN
    obtain ⟨o, X1, X2, M2, x1, x2, x3, x4, x5, x6⟩ := judge1 R' hH hs hn (by rw [kY.1 _ (by unfold kX; omega)]; exact e1) (by rw [kN.1 14 (by unfold kM; omega)]; exact e2) (fun j hj => by rw [kY.1 _ (by unfold kX; omega), kN.1 15 (by unfold kM; omega)]; exact e4 j hj) hi
    simp only [show Y 1 5 = nI H from by rw [kY.1 1 (by unfold kX; omega), hx], show N 0 3 = nI H from by rw [kN.2 3 (by unfold kM0; omega), hm]]
    rw [if_neg (nI_ge hi (by omega)), if_neg (nI_ge hi (by omega)), x1, Option.bind_some, if_pos (ib_mk hs (by omega)), nI_clamp (by omega), x2, x3, Option.bind_some, Option.bind_some]
    dsimp only
    rw [ans_ge x4, ans_m1 x4, nI_1, or_z]
    by_cases co : o = none
    · rw [if_pos co, if_pos co]
      exact hk _ _ ⟨_, X2, M2, rfl, rfl, kY.tr x5, kN.tr x6⟩
    · rw [if_neg co, if_neg co]
      exact hk _ _ ⟨_, X2, M2, rfl, rfl, kY.tr x5, kN.tr x6⟩
end
section
/-! LAY, KINDS, LAWS -/
def layP (W : Int32) (f : Nat → Int32) (w : hWd) (n c l : Nat) : Prop := bt W c = false ∧ difS f w (c, l) n = none
theorem bset_iff {S v : Int32} {l b : Nat} (hb : b < 32) (hl : l < 32) (h : S = v ||| (1 <<< (nI l &&& 31))) : (bt S b = true) ↔ (bt v b = true ∨ b = l) := by
  rw [h, b_set v hl hb, Bool.or_eq_true, decide_eq_true_eq]
theorem x_lay {w : hWd} {T : Nat} {X : hMem} (hw : okW w) (mx : MX w T X) (hW : X 2 0 = w.1 0) {sh n : Nat} (hs : sh < 4) (hn : n ≤ 25) (e1 : X (80 + 2 * sh) 1 = nI n) : ∃ r, h_lp (fX9_lay_L24 (nI sh)) h_FU (0, 0, X) = some r ∧ (kT X r.2 ∧ ∀ b, b < 32 → (bt r.1 b = true ↔ ∃ c l, c < 32 ∧ l < 3 ∧ b = l ∧ layP (w.1 0) (X (81 + 2 * sh)) w n c l)) := by
  refine lp_u0 (body := fX9_lay_L24 (nI sh)) 3 (fun i z => ∃ (v : Int32) (Y : hMem), z = (v, nI i, Y) ∧ kT X Y ∧ ∀ b, b < 32 → (bt v b = true ↔ ∃ c l, c < 32 ∧ l < i ∧ b = l ∧ layP (w.1 0) (X (81 + 2 * sh)) w n c l)) _ _ ⟨0, X, rfl, kT.rf X, fun b hb => ?_⟩ (by omega) ?_ ?_
  · rw [b_0]
    exact ⟨fun h => (by cases h), fun ⟨c, l, _, h, _⟩ => absurd h (Nat.not_lt_zero _)⟩
  · rintro k z ⟨v, Y, rfl, kY, hv⟩
    unfold fX9_lay_L24
    dsimp only
    rw [if_pos (show (3 : Int32) ≤ nI 3 from by decide)]
    exact ⟨_, rfl, kY, hv⟩
  · rintro k i z hi ⟨v, Y, rfl, kY, hv⟩ hk
    unfold fX9_lay_L24
    dsimp only
    rw [if_neg (show ¬ (3 : Int32) ≤ nI i from nI_ge (b := 3) hi (by decide))]
    refine lp_u0 (body := fX9_lay_L33 k (nI sh) (nI i)) 32 (fun j z => ∃ (v' : Int32) (Y' : hMem), z = (v', nI j, Y') ∧ kT X Y' ∧ ∀ b, b < 32 → (bt v' b = true ↔ (bt v b = true ∨ ∃ c, c < j ∧ b = i ∧ layP (w.1 0) (X (81 + 2 * sh)) w n c i))) _ _ ⟨v, Y, rfl, kY, fun b hb => ⟨Or.inl, fun h => h.elim id (fun ⟨c, h, _⟩ => absurd h (Nat.not_lt_zero _))⟩⟩ (by omega) ?_ ?_
    · rintro k2 z ⟨v', Y', rfl, kY', hv'⟩
      unfold fX9_lay_L33
      dsimp only
      rw [if_pos (show (32 : Int32) ≤ nI 32 from by decide), nI_1]
      refine hk _ ⟨v', Y', rfl, kY', fun b hb => ?_⟩
      rw [hv' b hb, hv b hb]
      constructor
      · rintro (⟨c, l, q1, q2, q3, q4⟩ | ⟨c, q1, q2, q3⟩)
        · exact ⟨c, l, q1, by omega, q3, q4⟩
        · exact ⟨c, i, q1, by omega, q2, q3⟩
      · rintro ⟨c, l, q1, q2, q3, q4⟩
        by_cases e : l = i
        · subst e; exact Or.inr ⟨c, q1, q3, q4⟩
        · exact Or.inl ⟨c, l, q1, by omega, q3, q4⟩
    · rintro k2 j z hj ⟨v', Y', rfl, kY', hv'⟩ hk2
      unfold fX9_lay_L33
      dsimp only
      have hWY : Y' 2 0 = w.1 0 := by rw [kY' 2 (by omega) (by omega)]; exact hW
      rw [if_neg (show ¬ (32 : Int32) ≤ nI j from nI_ge (b := 32) hj (by decide)), xe_op hj, hWY, b10]
      have step : ∀ v'' : Int32, (∀ b, b < 32 → (bt v'' b = true ↔ (bt v' b = true ∨ (b = i ∧ layP (w.1 0) (X (81 + 2 * sh)) w n j i)))) → ∀ b, b < 32 → (bt v'' b = true ↔ (bt v b = true ∨ ∃ c, c < j + 1 ∧ b = i ∧ layP (w.1 0) (X (81 + 2 * sh)) w n c i)) := by
        intro v'' h b hb
        rw [h b hb, hv' b hb]
        constructor
        · rintro ((h | ⟨c, q1, q2, q3⟩) | ⟨q1, q2⟩)
          · exact Or.inl h
          · exact Or.inr ⟨c, by omega, q2, q3⟩
          · exact Or.inr ⟨j, by omega, q1, q2⟩
        · rintro (h | ⟨c, q1, q2, q3⟩)
          · exact Or.inl (Or.inl h)
          · by_cases e : c = j
            · subst e; exact Or.inr ⟨q2, q3⟩
            · exact Or.inl (Or.inr ⟨c, by omega, q2, q3⟩)
      by_cases hb : bt (w.1 0) j = true
      · rw [if_pos hb, nI_1]
        refine hk2 _ ⟨v', Y', rfl, kY', step v' (fun b hb2 => ⟨Or.inl, fun h => h.elim id (fun q => ?_)⟩)⟩
        have := q.2.1
        rw [hb] at this
        cases this
      · rw [if_neg hb, if_pos (ib_mk hs (by omega)), nI_clamp (by omega), x_stOf]
        obtain ⟨X', g1, g2⟩ := x_else hw (mx.kT kY') hs hn (by rw [kY' _ (by omega) (by omega)]; exact e1) (s := (j, i)) hj hi
        rw [show fX8_elsewhere (80 + 2 * sh) (nI (32 * i + j)) Y' = _ from g1, Option.bind_some, show Y' (81 + 2 * sh) = X (81 + 2 * sh) from kY' _ (by omega) (by omega)]
        dsimp only
        rw [ans_ge (difS_ok hn), nI_1]
        by_cases co : difS (X (81 + 2 * sh)) w (j, i) n = none
        · rw [if_pos co]
          refine hk2 _ ⟨_, X', rfl, kY'.tr g2, step _ (fun b hb2 => ?_)⟩
          rw [bset_iff hb2 (by omega) rfl]
          exact ⟨fun h => h.elim Or.inl (fun q => Or.inr ⟨q, eq_false_of_ne_true hb, co⟩), fun h => h.elim Or.inl (fun q => Or.inr q.1)⟩
        · rw [if_neg co]
          exact hk2 _ ⟨_, X', rfl, kY'.tr g2, step _ (fun b hb2 => ⟨Or.inl, fun h => h.elim id (fun q => absurd q.2.2 co)⟩)⟩
theorem m_lay {w : hWd} {h : Nat} {c e : Nat → Int32} {M : hMem} (hw : okW w) (mm : MM w h c e M) (h0 : M 0 39 = 0) {sh n : Nat} (hs : sh < 4) (hn : n ≤ 25) (e1 : M 14 sh = nI n) : ∃ r, h_lp (fX10_lay_L19 (nI sh) (nI h)) h_FU (0, 0, M) = some r ∧ (kS M r.2 ∧ ∀ b, b < 32 → (bt r.1 b = true ↔ ∃ c l, c < 32 ∧ l < 3 ∧ b = l ∧ layP (w.1 0) (fun j => M 15 (40 * sh + j)) w n c l)) := by
  have hW : M 1 0 = w.1 0 := mm.2.1 0 (by omega)
  refine lp_u0 (body := fX10_lay_L19 (nI sh) (nI h)) 96 (fun i z => ∃ (v : Int32) (Y : hMem), z = (v, nI i, Y) ∧ kS M Y ∧ ∀ b, b < 32 → (bt v b = true ↔ ∃ j, j < i ∧ b = j % 3 ∧ layP (w.1 0) (fun j => M 15 (40 * sh + j)) w n (j / 3) (j % 3))) _ _ ⟨0, M, rfl, kS.rf M, fun b hb => ?_⟩ (by omega) ?_ ?_
  · rw [b_0]
    exact ⟨fun h => (by cases h), fun ⟨j, h, _⟩ => absurd h (Nat.not_lt_zero _)⟩
  · rintro k z ⟨v, Y, rfl, kY, hv⟩
    unfold fX10_lay_L19
    dsimp only
    rw [if_pos (show (96 : Int32) ≤ nI 96 from by decide)]
    refine ⟨_, rfl, kY, fun b hb => ?_⟩
    rw [hv b hb]
    constructor
    · rintro ⟨j, q1, q2, q3⟩
      exact ⟨j / 3, j % 3, by omega, by omega, q2, q3⟩
    · rintro ⟨c, l, q1, q2, q3, q4⟩
      refine ⟨3 * c + l, by omega, by omega, ?_⟩
      rw [show (3 * c + l) / 3 = c from by omega, show (3 * c + l) % 3 = l from by omega]
      exact q4
  · rintro k i z hi ⟨v, Y, rfl, kY, hv⟩ hk
    have ed : nI i / 3 = nI (i / 3) := pk_div (d := 3) (by omega) (by decide) (by decide)
    have er : h_rem (nI i) 3 = nI (i % 3) := n_rem (d := 3) (by omega) (by decide) (by decide)
    unfold fX10_lay_L19
    dsimp only
    rw [if_neg (show ¬ (96 : Int32) ≤ nI i from nI_ge (b := 96) hi (by decide)), ed, er]
    have kb := kS_b Y (nI (i / 3)) (nI (i % 3))
    have kZ := kY.tr kb
    have z6 : h_up (h_up Y 0 36 (nI (i / 3))) 0 37 (nI (i % 3)) 0 36 = nI (i / 3) := by rw [m_own, u_n (by omega), m_own, u_s]
    have z7 : h_up (h_up Y 0 36 (nI (i / 3))) 0 37 (nI (i % 3)) 0 37 = nI (i % 3) := by rw [m_own, u_s]
    generalize h_up (h_up Y 0 36 (nI (i / 3))) 0 37 (nI (i % 3)) = Z at *
    have hc : i / 3 < 32 := by omega
    have hl : i % 3 < 3 := by omega
    rw [me_has0 hc, Option.bind_some, b01, kZ.1 1 (by omega) (by omega) (by omega), hW]
    have step : ∀ v'' : Int32, (∀ b, b < 32 → (bt v'' b = true ↔ (bt v b = true ∨ (b = i % 3 ∧ layP (w.1 0) (fun j => M 15 (40 * sh + j)) w n (i / 3) (i % 3))))) → ∀ b, b < 32 → (bt v'' b = true ↔ ∃ j, j < i + 1 ∧ b = j % 3 ∧ layP (w.1 0) (fun j => M 15 (40 * sh + j)) w n (j / 3) (j % 3)) := by
      intro v'' h b hb
      rw [h b hb, hv b hb]
      constructor
      · rintro (⟨j, q1, q2, q3⟩ | ⟨q1, q2⟩)
        · exact ⟨j, by omega, q2, q3⟩
        · exact ⟨i, by omega, q1, q2⟩
      · rintro ⟨j, q1, q2, q3⟩
        by_cases e : j = i
        · subst e; exact Or.inr ⟨q2, q3⟩
        · exact Or.inl ⟨j, by omega, q2, q3⟩
    by_cases hb : bt (w.1 0) (i / 3) = true
    · rw [if_pos hb, or_z, nI_1]
      refine hk _ ⟨v, Z, rfl, kZ, step v (fun b hb2 => ⟨Or.inl, fun h => h.elim id (fun q => ?_)⟩)⟩
      have := q.2.1
      rw [hb] at this
      cases this
    · rw [if_neg hb]
      obtain ⟨M', g1, g2⟩ := m_unlike hw (mm.kS kZ) (by rw [kZ.2 39 (by omega) (by omega)]; exact h0) hs hn (by rw [kZ.1 14 (by omega) (by omega) (by omega)]; exact e1) (s := (i / 3, i % 3)) hc hl z6 z7
      rw [g1, Option.bind_some, show Z 15 = M 15 from kZ.1 15 (by omega) (by omega) (by omega)]
      dsimp only
      rw [ans_m1 (difS_ok hn), nI_1, or_z]
      by_cases co : difS (fun j => M 15 (40 * sh + j)) w (i / 3, i % 3) n = none
      · rw [if_pos co]
        refine hk _ ⟨_, M', rfl, kZ.tr g2, step _ (fun b hb2 => ?_)⟩
        rw [bset_iff hb2 (by omega) rfl]
        exact ⟨fun h => h.elim Or.inl (fun q => Or.inr ⟨q, eq_false_of_ne_true hb, co⟩), fun h => h.elim Or.inl (fun q => Or.inr q.1)⟩
      · rw [if_neg co]
        exact hk _ ⟨_, M', rfl, kZ.tr g2, step _ (fun b hb2 => ⟨Or.inl, fun h => h.elim id (fun q => absurd q.2.2 co)⟩)⟩
theorem eq_lay {X M : hMem} (R : RR X M) (a b : Int32) : EqC (fX9_lay a b X) (fX10_lay a b M) := by
  obtain ⟨H, hH, hx, hm⟩ := R.hats
  obtain ⟨v, v1, v2, v3⟩ := way_eq R hH hx hm a b
  unfold fX9_lay fX10_lay
  rw [v1, v2, Option.bind_some, Option.bind_some]
  by_cases c : v = 0
  rotate_left
  · rw [if_neg c, if_neg c]; exact EqC.now R
  obtain ⟨s, n, h, hs, rfl, hn, e1, e2, e4, hh, rfl⟩ := v3 c
  obtain ⟨r, q, l, X1, r1, q1, l1, ok, mm, q2, l2, x1, x2, x3, x4, -, -⟩ := R.ctx hH hh
  obtain ⟨z, z1, z2, z3⟩ := x_lay ok x2 (by rw [x4 2 (by omega)]; exact R.setsE (k := 0) (by omega)) hs hn (by rw [x4 _ (by omega)]; exact e1)
  obtain ⟨y, y1, y2, y3⟩ := m_lay ok mm R.hold hs hn e2
  rw [if_pos c, if_pos c, x1, Option.bind_some]
  refine EqC.of ⟨z, y, z1, y1, b_ext fun b hb => ?_, R.keep (kP.X x4 z2.P) y2.keep⟩
  rw [Bool.eq_iff_iff, z3 b hb, y3 b hb]
  unfold layP
  simp only [difS_c (n := n) (f := X1 (81 + 2 * s)) (g := fun j => M 15 (40 * s + j)) (fun j hj => by rw [x4 _ (by omega)]; exact e4 j (by omega))]
end
section
/-! KINDS, LAWS: other worlds -/
def wKM (w : hWd) (k mo : Nat) : hWd := (w.1, w.2.1, w.2.2.1, k, mo, w.2.2.2.2.2)
def wL (w : hWd) (f : Nat → (Nat → Int32) → Int32) : hWd := (w.1, w.2.1, w.2.2.1, w.2.2.2.1, w.2.2.2.2.1, f)
theorem wKM_ok {w : hWd} (h : okW w) {k mo : Nat} (hk : k < 6) (hm : mo < 10) : okW (wKM w k mo) := ⟨h.1, hk, hm, h.2.2.2⟩
theorem wL_ok {w : hWd} (h : okW w) (c e : Nat → Int32) : okW (wL w (evX c e)) := ⟨h.1, h.2.1, h.2.2.1, fun nm => evX_b c e nm⟩
theorem MX.km {w : hWd} {T : Nat} {Y Y' : hMem} (h : MX w T Y) {k mo : Nat} (hr : ∀ a, a ≠ 40 → Y' a = Y a) (h0 : ∀ j, j ≠ 3 → j ≠ 4 → Y' 40 j = Y 40 j) (e3 : Y' 40 3 = nI k) (e4 : Y' 40 4 = nI mo) : MX (wKM w k mo) T Y' := by
  obtain ⟨h1, h2, h3, h4, h5, h6, h7, h8, h9, h10⟩ := h
  refine ⟨?_, ?_, ?_, e3, e4, fun j hj => ?_, h7, ?_, ?_, ?_⟩
  · rw [h0 0 (by omega) (by omega)]; exact h1
  · rw [h0 1 (by omega) (by omega)]; exact h2
  · rw [h0 2 (by omega) (by omega)]; exact h3
  · rw [hr 45 (by omega), hr 46 (by omega)]; exact h6 j hj
  · rw [h0 6 (by omega) (by omega)]; exact h8
  · rw [hr _ (by omega), hr _ (by omega)]; exact h9
  · rw [hr _ (by omega), hr _ (by omega)]; exact h10
theorem MM.km {w : hWd} {h : Nat} {c e : Nat → Int32} {M M' : hMem} (m : MM w h c e M) {k mo : Nat} (hr : ∀ a, a ≠ 4 → a ≠ 5 → M' a = M a) (e4 : M' 4 h = nI k) (e5 : M' 5 h = nI mo) : MM (wKM w k mo) h c e M' := by
  obtain ⟨h1, h2, h3, h4, h5, ⟨r, h6, h7, h8⟩, h9⟩ := m
  refine ⟨h1, ?_, ?_, e4, e5, ⟨r, h6, ?_, ?_⟩, h9⟩
  · rw [hr 1 (by omega) (by omega)]; exact h2
  · rw [hr 2 (by omega) (by omega), hr 3 (by omega) (by omega)]; exact h3
  · rw [hr 0 (by omega) (by omega)]; exact h7
  · rw [hr 10 (by omega) (by omega), hr 11 (by omega) (by omega)]; exact h8
theorem kinds_run {X M X1 : hMem} (R : RR X M) {w : hWd} {h r q l s n col e k0 m0 : Nat} {cc ce : Nat → Int32} {c : Int32} (ok : okW w) (mx : MX w r X1) (mm : MM w h cc ce M) (q1 : q < 32) (l1 : l < 3) (q2 : M 6 h = nI q) (l2 : M 7 h = nI l) (x3 : X1 40 5 = nI (stN (q, l))) (x4 : ∀ a, a < 40 ∨ 55 < a → X1 a = X a) (hs : s < 4) (hn : n ≤ 25) (e1 : X (80 + 2 * s) 1 = nI n) (e2 : M 14 s = nI n) (e4 : ∀ i, i < 40 → X (81 + 2 * s) i = M 15 (40 * s + i)) (K O : Nat → Nat) (he : e ≤ 10) (hK : ∀ i, i < e → K i < 6 ∧ O i < 10) (hcol : (col = 3 ∧ (∀ i, K i = i) ∧ ∀ i, O i = w.2.2.2.2.1) ∨ (col = 4 ∧ (∀ i, O i = i) ∧ ∀ i, K i = w.2.2.2.1)) (xs : ∀ k v i Y, fX9_kinds_L50 (nI s) c (nI e) k (v, nI i, Y) = if nI e ≤ nI i then some (v, Y) else fX9_kinds_L82 k (nI s) c v (nI e) (nI i) (h_up Y 40 col (nI i))) (ms : ∀ k v i N, fX10_kinds_L50 (nI s) (nI h) c (M 4 h) (M 5 h) k (v, nI i, N) = if nI e ≤ nI i then some (v, h_up (h_up N 4 h (M 4 h)) 5 h (M 5 h)) else fX10_kinds_L100 k (nI s) (nI h) c (M 4 h) (M 5 h) v (nI i) (nI (O i)) (nI h) (h_up N 4 h (nI (K i)))) : EqC (h_lp (fX9_kinds_L50 (nI s) c (nI e)) h_FU (0, 0, X1)) (h_lp (fX10_kinds_L50 (nI s) (nI h) c (M 4 h) (M 5 h)) h_FU (0, 0, M)) := by
  have hh := mm.1
  refine EqC.of (lp20 e (fun i z z' => ∃ (v : Int32) (Y N : hMem) (k mo : Nat), z = (v, nI i, Y) ∧ z' = (v, nI i, N) ∧ kO X Y ∧ MX (wKM w k mo) r Y ∧ (col = 3 → mo = w.2.2.2.2.1) ∧ (col = 4 → k = w.2.2.2.1) ∧ Y 40 5 = nI (stN (q, l)) ∧ kQ M (h_up (h_up N 4 h (M 4 h)) 5 h (M 5 h))) EqQ _ _ ⟨0, X1, M, w.2.2.2.1, w.2.2.2.2.1, rfl, rfl, fun a h1 _ => x4 a h1, mx, fun _ => rfl, fun _ => rfl, x3, by rw [h_upid M 4 h _ rfl, h_upid M 5 h _ rfl]; exact kQ.rf M⟩ (by omega) ?_ ?_)
  · rintro k k' z z' ⟨v, Y, N, k1, mo, rfl, rfl, oY, mY, -, -, h5, kN⟩
    rw [xs, ms, if_pos (nI_le (Nat.le_refl _) (by omega)), if_pos (nI_le (Nat.le_refl _) (by omega))]
    exact ⟨_, _, rfl, rfl, rfl, R.keep oY.X kN.keep⟩
  · rintro k k' i z z' hi ⟨v, Y, N, k1, mo, rfl, rfl, oY, mY, c3, c4, h5, kN⟩ hk
    rw [xs, ms, if_neg (nI_ge hi (by omega)), if_neg (nI_ge hi (by omega))]
    unfold fX9_kinds_L82 fX10_kinds_L100
    rw [if_pos (ib_mk hs (by omega)), if_pos (ib_mk hh (by omega)), nI_clamp (by omega), nI_clamp (by omega)]
    have hc34 : col = 3 ∨ col = 4 := by omega
    have mY' : MX (wKM w (K i) (O i)) r (h_up Y 40 col (nI i)) := by
      have h34 := mY.2.2.2
      rcases hcol with ⟨rfl, t1, t2⟩ | ⟨rfl, t1, t2⟩
      · refine mY.km (k := K i) (mo := O i) (fun a ha => m_row ha) (fun j j1 j2 => ?_) ?_ ?_
        · rw [m_own, u_n j1]
        · rw [m_own, u_s, t1]
        · rw [m_own, u_n (by omega), t2, ← c3 rfl]; exact h34.2.1
      · refine mY.km (k := K i) (mo := O i) (fun a ha => m_row ha) (fun j j1 j2 => ?_) ?_ ?_
        · rw [m_own, u_n j2]
        · rw [m_own, u_n (by omega), t2, ← c4 rfl]; exact h34.1
        · rw [m_own, u_s, t1]
    have y5 : (h_up Y 40 col (nI i)) 40 5 = nI (stN (q, l)) := by rw [m_own, u_n (by omega)]; exact h5
    have mN : MM (wKM w (K i) (O i)) h cc ce (h_up (h_up N 4 h (nI (K i))) 5 h (nI (O i))) := by
      refine (mm.kQ kN).km (fun a a4 a5 => ?_) ?_ ?_
      · rw [m_row a5, m_row a4, m_row a5, m_row a4]
      · rw [m_row (by omega), m_own, u_s]
      · rw [m_own, u_s]
    have okk := wKM_ok ok (hK i hi).1 (hK i hi).2
    obtain ⟨X2, f1, f2⟩ := x_else okk mY' hs hn (by rw [m_row (by omega), oY _ (by omega) (by omega)]; exact e1) (s := (q, l)) q1 l1
    have nrow : ∀ a, (1 ≤ a ∧ a < 18) ∨ 23 < a → a ≠ 4 → a ≠ 5 → N a = M a := fun a h1 h4 h5 => by
      have := kN.1 a h1
      rw [m_row h5, m_row h4] at this
      exact this
    have n0 : ∀ j, j ≠ 36 → j ≠ 37 → N 0 j = M 0 j := fun j j1 j2 => by
      have := kN.2 j j1 j2
      rw [m_row (by omega), m_row (by omega)] at this
      exact this
    obtain ⟨M2, g1, g2⟩ := m_unlikeNow okk mN (by rw [m_row (by omega), m_row (by omega), n0 39 (by omega) (by omega)]; exact R.hold) hs hn (by rw [m_row (by omega), m_row (by omega), nrow 14 (by omega) (by omega) (by omega)]; exact e2) q1 l1 (by rw [m_row (by omega), m_row (by omega), nrow 6 (by omega) (by omega) (by omega)]; exact q2) (by rw [m_row (by omega), m_row (by omega), nrow 7 (by omega) (by omega) (by omega)]; exact l2)
    rw [y5, f1, g1, Option.bind_some, Option.bind_some]
    dsimp only
    have ed : difS ((h_up Y 40 col (nI i)) (81 + 2 * s)) (wKM w (K i) (O i)) (q, l) n = difS (fun j => (h_up (h_up N 4 h (nI (K i))) 5 h (nI (O i))) 15 (40 * s + j)) (wKM w (K i) (O i)) (q, l) n := difS_c (fun j hj => by
      rw [m_row (by omega), m_row (by omega), m_row (by omega), oY _ (by omega) (by omega), nrow 15 (by omega) (by omega) (by omega)]
      exact e4 j (by omega))
    rw [ed, ans_ge (difS_ok hn), ans_m1 (difS_ok hn), nI_1, or_z]
    have oY2 : kO X X2 := oY.tr ((kO.up Y (by omega) (by omega) col (nI i)).tr f2.P.O)
    have mY2 := mY'.kT f2
    have y52 : X2 40 5 = nI (stN (q, l)) := by rw [f2 40 (by omega) (by omega)]; exact y5
    have kN2 : kQ M (h_up (h_up M2 4 h (M 4 h)) 5 h (M 5 h)) := by
      refine kN.tr ⟨fun a ha => ?_, fun j j1 j2 => ?_⟩
      · by_cases a4 : a = 4
        · subst a4
          rw [m_row (by omega), m_own, m_row (by omega), m_own, g2.1 4 (by omega) (by omega) (by omega), m_row (by omega), m_own]
          funext j
          by_cases e : j = h
          · subst e; rw [u_s, u_s]
          · rw [u_n e, u_n e, u_n e]
        · by_cases a5 : a = 5
          · subst a5
            rw [m_own, m_own, m_row (by omega), m_row (by omega), g2.1 5 (by omega) (by omega) (by omega), m_own, m_row (by omega)]
            funext j
            by_cases e : j = h
            · subst e; rw [u_s, u_s]
            · rw [u_n e, u_n e, u_n e]
          · rw [m_row a5, m_row a4, m_row a5, m_row a4, g2.1 a (by omega) (by omega) (by omega), m_row a5, m_row a4]
      · rw [m_row (by omega), m_row (by omega), m_row (by omega), m_row (by omega), g2.2 j j1 j2, m_row (by omega), m_row (by omega)]
    have t3 : col = 3 → O i = w.2.2.2.2.1 := fun h => by
      rcases hcol with ⟨h1, t1, t2⟩ | ⟨h1, t1, t2⟩
      · exact t2 i
      · omega
    have t4 : col = 4 → K i = w.2.2.2.1 := fun h => by
      rcases hcol with ⟨h1, t1, t2⟩ | ⟨h1, t1, t2⟩
      · omega
      · exact t2 i
    generalize difS _ _ _ _ = o
    by_cases co : o = none
    · rw [if_pos co, if_pos co]
      exact hk _ _ ⟨_, X2, M2, _, _, rfl, rfl, oY2, mY2, t3, t4, y52, kN2⟩
    · rw [if_neg co, if_neg co]
      exact hk _ _ ⟨_, X2, M2, _, _, rfl, rfl, oY2, mY2, t3, t4, y52, kN2⟩
theorem eq_kinds {X M : hMem} (R : RR X M) (a b c : Int32) : EqC (fX9_kinds a b c X) (fX10_kinds a b c M) := by
  obtain ⟨H, hH, hx, hm⟩ := R.hats
  obtain ⟨v, v1, v2, v3⟩ := way_eq R hH hx hm a b
  unfold fX9_kinds fX10_kinds
  rw [v1, v2, Option.bind_some, Option.bind_some]
  by_cases cv : v = 0
  rotate_left
  · rw [if_neg cv, if_neg cv]; exact EqC.now R
  obtain ⟨s, n, h, hs, rfl, hn, e1, e2, e4, hh, rfl⟩ := v3 cv
  rw [if_pos cv, if_pos cv, xe_01, b01, me_in1, b01]
  by_cases hc : h_ib c 2
  rotate_left
  · rw [if_neg hc, if_neg hc]; exact EqC.now R
  have h4 : h_ib (nI h) 4 := ib_mk (by omega) (by omega)
  obtain ⟨r, q, l, X1, r1, q1, l1, ok, mm, q2, l2, x1, x2, x3, x4, -, -⟩ := R.ctx hH hh
  have ek : M 4 h = nI (wOf X M h r).2.2.2.1 := mm.2.2.2.1
  have em : M 5 h = nI (wOf X M h r).2.2.2.2.1 := mm.2.2.2.2.1
  have okk := ok.2
  rw [if_pos hc, if_pos hc, x1, Option.bind_some, if_pos h4, if_pos h4, nI_clamp (by omega)]
  rcases (ib2 c).mp hc with rfl | rfl
  · rw [if_pos rfl]
    refine kinds_run R (col := 3) (e := 6) (K := fun i => i) (O := fun _ => (wOf X M h r).2.2.2.2.1) (k0 := 0) (m0 := 0) ok x2 mm q1 l1 q2 l2 x3 x4 hs hn e1 e2 e4 (by omega) (fun i hi => ⟨hi, okk.2.1⟩) (Or.inl ⟨rfl, fun _ => rfl, fun _ => rfl⟩) (fun k v i Y => ?_) (fun k v i N => ?_)
    · unfold fX9_kinds_L50
      dsimp only
      rw [if_pos rfl]
    · unfold fX10_kinds_L50 fX10_kinds_L63 fX10_kinds_L82
      dsimp only
      simp only [if_true, if_pos h4, if_neg (show ¬ (0 : Int32) = 1 from by decide), nI_clamp (show h < 2 ^ 31 by omega), em]
      rfl
  · rw [if_neg (show ¬ (1 : Int32) = 0 from by decide)]
    refine kinds_run R (col := 4) (e := 10) (K := fun _ => (wOf X M h r).2.2.2.1) (O := fun i => i) (k0 := 0) (m0 := 0) ok x2 mm q1 l1 q2 l2 x3 x4 hs hn e1 e2 e4 (by omega) (fun i hi => ⟨okk.1, hi⟩) (Or.inr ⟨rfl, fun _ => rfl, fun _ => rfl⟩) (fun k v i Y => ?_) (fun k v i N => ?_)
    · unfold fX9_kinds_L50
      dsimp only
      rw [if_neg (show ¬ (1 : Int32) = 0 from by decide)]
    · unfold fX10_kinds_L50 fX10_kinds_L63 fX10_kinds_L82
      dsimp only
      simp only [if_true, if_pos h4, if_neg (show ¬ (1 : Int32) = 0 from by decide), nI_clamp (show h < 2 ^ 31 by omega), ek]
      rfl
end
section
/-! LAWS, FILM -/
theorem MX.law {w : hWd} {T i : Nat} {Y Y' : hMem} {mc ms : Nat → Int32} (h : MX w T Y) (hi : i < 6) (hg : gText (Y (57 + 4 * i)) (Y (58 + 4 * i)) mc ms) (hr : ∀ a, a ≠ 40 → Y' a = Y a) (h0 : ∀ j, j ≠ 6 → Y' 40 j = Y 40 j) (e6 : Y' 40 6 = nI (56 + 4 * i)) : MX (wL w (evX (Y (57 + 4 * i)) (Y (58 + 4 * i)))) i Y' := by
  obtain ⟨h1, h2, h3, h4, h5, h6, h7, h8, h9, h10⟩ := h
  refine ⟨?_, ?_, ?_, ?_, ?_, fun j hj => ?_, hi, e6, ⟨mc, ms, ?_⟩, ?_⟩
  · rw [h0 0 (by omega)]; exact h1
  · rw [h0 1 (by omega)]; exact h2
  · rw [h0 2 (by omega)]; exact h3
  · rw [h0 3 (by omega)]; exact h4
  · rw [h0 4 (by omega)]; exact h5
  · rw [hr 45 (by omega), hr 46 (by omega)]; exact h6 j hj
  · rw [hr _ (by omega), hr _ (by omega)]; exact hg
  · rw [hr _ (by omega), hr _ (by omega)]; rfl
theorem MM.law {w : hWd} {h i : Nat} {c e c' e' : Nat → Int32} {M M' : hMem} (m : MM w h c e M) (hi : i < 6) (hg : gText c' e' (fun j => M 10 (200 * i + j)) (fun p => M 11 (4 * i + p))) (hr : ∀ a, a ≠ 0 → M' a = M a) (e15 : M' 0 15 = nI i) : MM (wL w (evX c' e')) h c' e' M' := by
  obtain ⟨h1, h2, h3, h4, h5, ⟨r, h6, h7, h8⟩, h9⟩ := m
  refine ⟨h1, ?_, ?_, ?_, ?_, ⟨i, hi, e15, ?_⟩, rfl⟩
  · rw [hr 1 (by omega)]; exact h2
  · rw [hr 2 (by omega), hr 3 (by omega)]; exact h3
  · rw [hr 4 (by omega)]; exact h4
  · rw [hr 5 (by omega)]; exact h5
  · rw [hr 10 (by omega), hr 11 (by omega)]; exact hg
theorem RR.txt {X M : hMem} (R : RR X M) : ∃ T, 1 ≤ T ∧ T ≤ 6 ∧ X 0 4 = nI T ∧ M 0 14 = nI T ∧ gTexts T X M := by
  obtain ⟨T, t1, t2, t3, t4, n, k, f1, f2, tp, sh, tx, wd⟩ := R
  exact ⟨T, t1, t2, t3, t4, tx⟩
theorem eq_laws {X M : hMem} (R : RR X M) (a b : Int32) : EqC (fX9_laws a b X) (fX10_laws a b M) := by
  obtain ⟨H, hH, hx, hm⟩ := R.hats
  obtain ⟨v, v1, v2, v3⟩ := way_eq R hH hx hm a b
  obtain ⟨T, t1, t2, t3, t4, tx⟩ := R.txt
  unfold fX9_laws fX10_laws
  rw [v1, v2, Option.bind_some, Option.bind_some]
  by_cases cv : v = 0
  rotate_left
  · rw [if_neg cv, if_neg cv]; exact EqC.now R
  obtain ⟨s, n, h, hs, rfl, hn, e1, e2, e4, hh, rfl⟩ := v3 cv
  obtain ⟨r, q, l, X1, r1, q1, l1, ok, mm, q2, l2, x1, x2, x3, x4, -, -⟩ := R.ctx hH hh
  rw [if_pos cv, if_pos cv, x1, Option.bind_some]
  generalize wOf X M h r = w at *
  have self : ∀ (w : hWd), wL w w.2.2.2.2.2 = w := fun w => rfl
  refine EqC.of (lp20 (body := fX9_laws_L24 (nI s)) (body' := fX10_laws_L25 (nI s) (nI h) (M 0 15)) T (fun i z z' => ∃ (v : Int32) (Y N : hMem) (f : Nat → (Nat → Int32) → Int32) (t : Nat) (c' e' : Nat → Int32) (f' : Nat → (Nat → Int32) → Int32), z = (v, nI i, Y) ∧ z' = (v, nI i, N) ∧ kO X Y ∧ MX (wL w f) t Y ∧ Y 40 5 = nI (stN (q, l)) ∧ MM (wL w f') h c' e' N ∧ kQ M (h_up N 0 15 (M 0 15))) EqQ _ _ ⟨0, X1, M, w.2.2.2.2.2, r, _, _, w.2.2.2.2.2, rfl, rfl, fun a h1 _ => x4 a h1, x2, x3, mm, by rw [h_upid M 0 15 _ rfl]; exact kQ.rf M⟩ (by omega) ?_ ?_)
  · rintro k k' z z' ⟨v, Y, N, f, t, c', e', f', rfl, rfl, oY, mY, h5, mN, kN⟩
    unfold fX9_laws_L24 fX10_laws_L25
    dsimp only
    have n14 : N 0 14 = nI T := by
      have := kN.2 14 (by omega) (by omega)
      rw [m_own, u_n (by omega)] at this
      rw [this]; exact t4
    simp only [show Y 0 4 = nI T from by rw [oY 0 (by omega) (by omega), t3], n14]
    rw [if_pos (nI_le (Nat.le_refl _) (by omega)), if_pos (nI_le (Nat.le_refl _) (by omega))]
    exact ⟨_, _, rfl, rfl, rfl, R.keep oY.X kN.keep⟩
  · rintro k k' i z z' hi ⟨v, Y, N, f, t, c', e', f', rfl, rfl, oY, mY, h5, mN, kN⟩ hk
    unfold fX9_laws_L24 fX10_laws_L25
    dsimp only
    have nrow : ∀ a, (1 ≤ a ∧ a < 18) ∨ 23 < a → N a = M a := fun a h1 => by
      have := kN.1 a h1
      rw [m_row (by omega)] at this
      exact this
    have n0 : ∀ j, j ≠ 36 → j ≠ 37 → j ≠ 15 → N 0 j = M 0 j := fun j j1 j2 j3 => by
      have := kN.2 j j1 j2
      rw [m_own, u_n j3] at this
      exact this
    simp only [show Y 0 4 = nI T from by rw [oY 0 (by omega) (by omega), t3], show N 0 14 = nI T from by rw [n0 14 (by omega) (by omega) (by omega), t4]]
    rw [if_neg (nI_ge hi (by omega)), if_neg (nI_ge hi (by omega)), if_pos (ib_mk (by omega) (by omega)), if_pos (ib_mk hs (by omega)), nI_clamp (by omega), nI_clamp (by omega)]
    have g := tx i hi
    have eY1 : Y (57 + 4 * i) = X (57 + 4 * i) := oY _ (by omega) (by omega)
    have eY2 : Y (58 + 4 * i) = X (58 + 4 * i) := oY _ (by omega) (by omega)
    have mY' : MX (wL w (evX (X (57 + 4 * i)) (X (58 + 4 * i)))) i (h_up Y 40 6 (nI (56 + 4 * i))) := by
      have := mY.law (i := i) (Y' := h_up Y 40 6 (nI (56 + 4 * i))) (by omega) (by rw [eY1, eY2]; exact g) (fun a ha => m_row ha) (fun j hj => by rw [m_own, u_n hj]) (by rw [m_own, u_s])
      rw [eY1, eY2] at this
      exact this
    have mN' : MM (wL w (evX (X (57 + 4 * i)) (X (58 + 4 * i)))) h (X (57 + 4 * i)) (X (58 + 4 * i)) (h_up N 0 15 (nI i)) :=
      mN.law (i := i) (by omega) (by rw [nrow 10 (by omega), nrow 11 (by omega)]; exact g) (fun a ha => m_row ha) (by rw [m_own, u_s])
    have okk := wL_ok ok (X (57 + 4 * i)) (X (58 + 4 * i))
    have y5 : (h_up Y 40 6 (nI (56 + 4 * i))) 40 5 = nI (stN (q, l)) := by rw [m_own, u_n (by omega)]; exact h5
    obtain ⟨X2, f1, f2⟩ := x_else okk mY' hs hn (by rw [m_row (by omega), oY _ (by omega) (by omega)]; exact e1) (s := (q, l)) q1 l1
    obtain ⟨M2, g1, g2⟩ := m_unlikeNow okk mN' (by rw [m_own, u_n (by omega), n0 39 (by omega) (by omega) (by omega)]; exact R.hold) hs hn (by rw [m_row (by omega), nrow 14 (by omega)]; exact e2) q1 l1 (by rw [m_row (by omega), nrow 6 (by omega)]; exact q2) (by rw [m_row (by omega), nrow 7 (by omega)]; exact l2)
    rw [y5, f1, g1, Option.bind_some, Option.bind_some]
    dsimp only
    have ed : difS ((h_up Y 40 6 (nI (56 + 4 * i))) (81 + 2 * s)) (wL w (evX (X (57 + 4 * i)) (X (58 + 4 * i)))) (q, l) n = difS (fun j => (h_up N 0 15 (nI i)) 15 (40 * s + j)) (wL w (evX (X (57 + 4 * i)) (X (58 + 4 * i)))) (q, l) n := difS_c (fun j hj => by
      rw [m_row (by omega), m_row (by omega), oY _ (by omega) (by omega), nrow 15 (by omega)]
      exact e4 j (by omega))
    rw [ed, ans_ge (difS_ok hn), ans_m1 (difS_ok hn), nI_1, or_z]
    have oY2 : kO X X2 := oY.tr ((kO.up Y (by omega) (by omega) 6 _).tr f2.P.O)
    have mY2 := mY'.kT f2
    have y52 : X2 40 5 = nI (stN (q, l)) := by rw [f2 40 (by omega) (by omega)]; exact y5
    have mN2 := mN'.kS g2
    have kN2 : kQ M (h_up M2 0 15 (M 0 15)) := by
      refine kN.tr ⟨fun a ha => ?_, fun j j1 j2 => ?_⟩
      · rw [m_row (by omega), m_row (by omega), g2.1 a (by omega) (by omega) (by omega), m_row (by omega)]
      · rw [m_own, m_own]
        by_cases e : j = 15
        · subst e; rw [u_s, u_s]
        · rw [u_n e, u_n e, g2.2 j j1 j2, m_own, u_n e]
    generalize difS _ _ _ _ = o
    by_cases co : o = none
    · rw [if_pos co, if_pos co]
      exact hk _ _ ⟨_, X2, M2, _, _, _, _, _, rfl, rfl, oY2, mY2, y52, mN2, kN2⟩
    · rw [if_neg co, if_neg co]
      exact hk _ _ ⟨_, X2, M2, _, _, _, _, _, rfl, rfl, oY2, mY2, y52, mN2, kN2⟩
theorem MM.ext {w : hWd} {h : Nat} {c e : Nat → Int32} {M M' : hMem} (m : MM w h c e M) (hr : ∀ a, 1 ≤ a → a ≤ 11 → M' a = M a) (h15 : M' 0 15 = M 0 15) : MM w h c e M' := by
  obtain ⟨h1, h2, h3, h4, h5, ⟨r, h6, h7, h8⟩, h9⟩ := m
  refine ⟨h1, ?_, ?_, ?_, ?_, ⟨r, h6, ?_, ?_⟩, h9⟩
  · rw [hr 1 (by omega) (by omega)]; exact h2
  · rw [hr 2 (by omega) (by omega), hr 3 (by omega) (by omega)]; exact h3
  · rw [hr 4 (by omega) (by omega)]; exact h4
  · rw [hr 5 (by omega) (by omega)]; exact h5
  · rw [h15]; exact h7
  · rw [hr 10 (by omega) (by omega), hr 11 (by omega) (by omega)]; exact h8
theorem q_le25y {α : Type} {a : Int32} {A B : α} : (if a < 0 then A else if a ≤ 25 then B else A) = if h_ib a 26 then B else A := if_le a 25 A B (by decide)
theorem eq_film {X M : hMem} (R : RR X M) (a b c : Int32) : EqC (fX9_film a b c X) (fX10_film a b c M) := by
  obtain ⟨H, hH, hx, hm⟩ := R.hats
  unfold fX9_film fX10_film
  rw [xe_sheet, me_in3, xe_hat hx (by omega), me_hat hm (by omega), q_le25y, show fX10_in c 0 25 M = if h_ib c 26 then 1 else 0 from me_in c 25 M (by decide)]
  simp only [b01]
  by_cases ha : h_ib a 4
  rotate_left
  · simp only [if_neg ha]; exact EqC.now R
  by_cases hb : h_ib b H
  rotate_left
  · simp only [if_pos ha, if_neg hb]; exact EqC.now R
  by_cases hc : h_ib c 26
  rotate_left
  · simp only [if_pos ha, if_pos hb, if_neg hc]; exact EqC.now R
  simp only [if_pos ha, if_pos hb, if_pos hc]
  obtain ⟨s, hs, hs2, rfl⟩ := ib_ex ha
  obtain ⟨h, hh, hh2, rfl⟩ := ib_ex hb
  obtain ⟨n, hn, hn2, rfl⟩ := ib_ex hc
  obtain ⟨r, q, l, X1, r1, q1, l1, ok, mm, q2, l2, x1, x2, x3, x4, -, -⟩ := R.ctx hH hh
  obtain ⟨X2, f1, f2, f3⟩ := x_follow ok x2 (a := 47) (Or.inl rfl) x3 q1 l1
  rw [x1, Option.bind_some, f1, Option.bind_some, nI_clamp hs2]
  unfold fX6_becomeEmpty
  rw [if_pos (sh_isB hs)]
  obtain ⟨Y, y1, y2, y3⟩ := x_empty (80 + 2 * s) (h_up (h_up X2 (80 + 2 * s) 0 2) (80 + 2 * s) 1 (nI n))
  rw [y1, Option.bind_some]
  have Yr : ∀ a, a ≠ 80 + 2 * s → a ≠ 80 + 2 * s + 1 → Y a = X2 a := fun a h1 h2 => by rw [y2 a h2, m_row h1, m_row h1]
  have Y0 : Y (80 + 2 * s) 0 = 2 := by rw [y2 _ (by omega), m_own, u_n (by omega), m_own, u_s]
  have Y1 : Y (80 + 2 * s) 1 = nI n := by rw [y2 _ (by omega), m_own, u_s]
  have Y47 : Y 47 = X2 47 := Yr 47 (by omega) (by omega)
  generalize wOf X M h r = w at *
  have hx2 : ∀ a, a ≤ 28 ∨ 80 ≤ a ∨ a = 31 ∨ (56 ≤ a ∧ a < 80 ∧ a % 4 ≠ 3) ∨ a = 30 → X2 a = X a := fun a h1 => by rw [f2 a (by omega) (by omega) (by omega), x4 a (by omega)]
  -- x's loop
  have hxl : ∃ Z, h_lp (fX9_film_L67 (nI s) (nI n)) h_FU (0, Y) = some (nI n, Z) ∧ (∀ a, a ≠ 80 + 2 * s + 1 → Z a = Y a) ∧ ∀ i, i < 40 → Z (80 + 2 * s + 1) i = if i < n then nI (runS noH w 0 i (q, l)).1 else 0 := by
    refine Exists.elim (lp_u0 (body := fX9_film_L67 (nI s) (nI n)) n (fun i z => ∃ (Z : hMem), z = (nI i, Z) ∧ (∀ a, a ≠ 80 + 2 * s + 1 → Z a = Y a) ∧ ∀ j, j < 40 → Z (80 + 2 * s + 1) j = if j < i then nI (runS noH w 0 j (q, l)).1 else 0) (fun r => r.1 = nI n ∧ (∀ a, a ≠ 80 + 2 * s + 1 → r.2 a = Y a) ∧ ∀ i, i < 40 → r.2 (80 + 2 * s + 1) i = if i < n then nI (runS noH w 0 i (q, l)).1 else 0) (0, Y) ⟨Y, rfl, fun _ _ => rfl, fun j hj => by rw [y3 j hj, if_neg (by omega)]⟩ (by omega) ?_ ?_) ?_
    · rintro k z ⟨Z, rfl, h1, h2⟩
      unfold fX9_film_L67
      dsimp only
      rw [if_pos (nI_le (Nat.le_refl _) (by omega))]
      exact ⟨_, rfl, rfl, h1, h2⟩
    · rintro k i z hi ⟨Z, rfl, h1, h2⟩ hk
      unfold fX9_film_L67 fX6_put
      dsimp only
      have hL := runS_lt (hl := noH) (w := w) (a := 0) (s := (q, l)) q1 l1 i
      simp only [nI_clamp hs2, nI_clamp (show i < 2 ^ 31 by omega), show Z 47 = X2 47 from (h1 47 (by omega)).trans Y47, f3 i (by omega), x_sqS hL.1 hL.2, if_pos (sh_isB hs), show Z (80 + 2 * s) = Y (80 + 2 * s) from h1 _ (by omega), Y0, Y1, if_neg (show ¬ (2 : Int32) = 0 from by decide), if_neg (show ¬ (2 : Int32) = 1 from by decide)]
      rw [if_neg (nI_ge hi (by omega)), if_pos ha, if_pos (ib_mk (by omega) (by omega)), if_neg (nI_pos (by omega)), if_pos (nI_lt hi (by omega)), if_pos (ib_mk (by omega) (by omega)), Option.bind_some, nI_1]
      refine hk _ ⟨_, rfl, fun a ha => by rw [m_row ha]; exact h1 a ha, fun j hj => ?_⟩
      rw [m_own]
      by_cases e : j = i
      · subst e; rw [u_s, if_pos (by omega)]
      · rw [u_n e, h2 j hj]
        by_cases c : j < i
        · rw [if_pos c, if_pos (by omega)]
        · rw [if_neg c, if_neg (by omega)]
    · rintro r ⟨g1, g2, g3, g4⟩
      exact ⟨r.2, by rw [g1, ← g2], g3, g4⟩
  obtain ⟨Z, z1, z2, z3⟩ := hxl
  -- m's loop
  obtain ⟨N, hN⟩ : ∃ N : hMem, N = h_up (h_up M 13 s 2) 14 s (nI n) := ⟨_, rfl⟩
  have nr : ∀ a, a ≠ 13 → a ≠ 14 → N a = M a := fun a h1 h2 => by rw [hN, m_row h2, m_row h1]
  have n13 : N 13 = upd (M 13) s 2 := by rw [hN, m_row (by omega), m_own]
  have n14 : N 14 = upd (M 14) s (nI n) := by rw [hN, m_own, m_row (by omega)]
  rw [← hN, m_begins (by omega), Option.bind_some, nr 6 (by omega) (by omega), nr 7 (by omega) (by omega), q2, l2]
  clear hN
  have mN : MM w h (X (57 + 4 * r)) (X (58 + 4 * r)) N := by
    obtain ⟨h1, h2, h3, h4, h5, ⟨r', h6, h7, h8⟩, h9⟩ := mm
    refine ⟨h1, ?_, ?_, ?_, ?_, ⟨r', h6, ?_, ?_⟩, h9⟩
    · rw [nr 1 (by omega) (by omega)]; exact h2
    · rw [nr 2 (by omega) (by omega), nr 3 (by omega) (by omega)]; exact h3
    · rw [nr 4 (by omega) (by omega)]; exact h4
    · rw [nr 5 (by omega) (by omega)]; exact h5
    · rw [nr 0 (by omega) (by omega)]; exact h7
    · rw [nr 10 (by omega) (by omega), nr 11 (by omega) (by omega)]; exact h8
  have kb := kS_b N (nI q) (nI l)
  have hml : ∃ W, h_lp (fX10_film_L58 (nI s) (nI h) (nI n)) h_FU (0, h_up (h_up N 0 36 (nI q)) 0 37 (nI l)) = some (nI n, W) ∧ (∀ a, a ≠ 15 → a ≠ 0 → a ≠ 19 → a ≠ 20 → W a = N a) ∧ (∀ j, j ≠ 36 → j ≠ 37 → W 0 j = N 0 j) ∧ (∀ i, i < 40 → W 15 (40 * s + i) = if i < n then nI (runS noH w 0 i (q, l)).1 else 0) ∧ ∀ j, j < 40 * s ∨ 40 * s + 40 ≤ j → W 15 j = N 15 j := by
    refine Exists.elim (lp_u0 (body := fX10_film_L58 (nI s) (nI h) (nI n)) 40 (fun i z => ∃ (W : hMem), z = (nI i, W) ∧ (∀ a, a ≠ 15 → a ≠ 0 → a ≠ 19 → a ≠ 20 → W a = N a) ∧ (∀ j, j ≠ 36 → j ≠ 37 → W 0 j = N 0 j) ∧ (i ≤ 24 → W 0 36 = nI (runS noH w 0 i (q, l)).1 ∧ W 0 37 = nI (runS noH w 0 i (q, l)).2) ∧ (∀ j, j < i → W 15 (40 * s + j) = if j < n then nI (runS noH w 0 j (q, l)).1 else 0) ∧ ∀ j, j < 40 * s ∨ 40 * s + 40 ≤ j → W 15 j = N 15 j) (fun r => r.1 = nI n ∧ (∀ a, a ≠ 15 → a ≠ 0 → a ≠ 19 → a ≠ 20 → r.2 a = N a) ∧ (∀ j, j ≠ 36 → j ≠ 37 → r.2 0 j = N 0 j) ∧ (∀ i, i < 40 → r.2 15 (40 * s + i) = if i < n then nI (runS noH w 0 i (q, l)).1 else 0) ∧ ∀ j, j < 40 * s ∨ 40 * s + 40 ≤ j → r.2 15 j = N 15 j) (0, h_up (h_up N 0 36 (nI q)) 0 37 (nI l)) ⟨h_up (h_up N 0 36 (nI q)) 0 37 (nI l), rfl, fun a _ h0 _ _ => by rw [m_row h0, m_row h0], fun j j1 j2 => by rw [m_own, u_n j2, m_own, u_n j1], fun _ => ⟨by rw [m_own, u_n (by omega), m_own, u_s]; rfl, by rw [m_own, u_s]; rfl⟩, fun j hj => absurd hj (Nat.not_lt_zero _), fun j _ => by rw [m_row (by omega), m_row (by omega)]⟩ (by omega) ?_ ?_) ?_
    · rintro k z ⟨W, rfl, h1, h2, h3, h4, h5⟩
      unfold fX10_film_L58
      dsimp only
      rw [if_pos (show (40 : Int32) ≤ nI 40 from by decide)]
      exact ⟨_, rfl, rfl, h1, h2, h4, h5⟩
    · rintro k i z hi ⟨W, rfl, h1, h2, h3, h4, h5⟩ hk
      unfold fX10_film_L58
      dsimp only
      rw [if_neg (show ¬ (40 : Int32) ≤ nI i from nI_ge (b := 40) hi (by decide))]
      have key : ∀ v, v = (if i < n then nI (runS noH w 0 i (q, l)).1 else 0) → ∃ r, fX10_film_L90 k (nI s) (nI h) (nI n) (nI i) v (40 * nI s + nI i) W = some r ∧ (r.1 = nI n ∧ (∀ a, a ≠ 15 → a ≠ 0 → a ≠ 19 → a ≠ 20 → r.2 a = N a) ∧ (∀ j, j ≠ 36 → j ≠ 37 → r.2 0 j = N 0 j) ∧ (∀ i, i < 40 → r.2 15 (40 * s + i) = if i < n then nI (runS noH w 0 i (q, l)).1 else 0) ∧ ∀ j, j < 40 * s ∨ 40 * s + 40 ≤ j → r.2 15 j = N 15 j) := by
        intro v hv
        unfold fX10_film_L90
        rw [show (40 : Int32) * nI s = nI (40 * s) from pk_mul 40 s, nI_add, if_pos (ib_mk (by omega) (by omega)), nI_clamp (by omega)]
        have p4 : ∀ j, j < i + 1 → (h_up W 15 (40 * s + i) v) 15 (40 * s + j) = if j < n then nI (runS noH w 0 j (q, l)).1 else 0 := fun j hj => by
          rw [m_own]
          by_cases e : j = i
          · subst e; rw [u_s]; exact hv
          · rw [u_n (by omega)]; exact h4 j (by omega)
        have p5 : ∀ j, j < 40 * s ∨ 40 * s + 40 ≤ j → (h_up W 15 (40 * s + i) v) 15 j = N 15 j := fun j hj => by
          rw [m_own, u_n (by omega)]; exact h5 j hj
        have p1 : ∀ a, a ≠ 15 → a ≠ 0 → a ≠ 19 → a ≠ 20 → (h_up W 15 (40 * s + i) v) a = N a := fun a a1 a2 a3 a4 => by rw [m_row a1]; exact h1 a a1 a2 a3 a4
        have p2 : (h_up W 15 (40 * s + i) v) 0 = W 0 := by rw [m_row (by omega)]
        by_cases h24 : i < 24
        · rw [if_neg (show ¬ (24 : Int32) ≤ nI i from nI_ge (b := 24) h24 (by decide))]
          obtain ⟨w1, w2⟩ := h3 (by omega)
          have hL := runS_lt (hl := noH) (w := w) (a := 0) (s := (q, l)) q1 l1 i
          have mW : MM w h (X (57 + 4 * r)) (X (58 + 4 * r)) (h_up W 15 (40 * s + i) v) := mN.ext (fun a a1 a2 => p1 a (by omega) (by omega) (by omega) (by omega)) (by rw [p2]; exact h2 15 (by omega) (by omega))
          obtain ⟨M', g1, g2, g3, g4⟩ := m_seconds ok mW (t := i) (q := (runS noH w 0 i (q, l)).1) (l := (runS noH w 0 i (q, l)).2) h24 hL.1 hL.2 (by rw [p2]; exact w1) (by rw [p2]; exact w2)
          have hld : hldM (h_up W 15 (40 * s + i) v) i = false := hldM_0 (by rw [p2, h2 39 (by omega) (by omega), nr 0 (by omega) (by omega)]; exact R.hold) i
          rw [hld] at g3 g4
          rw [g1, Option.bind_some, nI_1]
          refine hk _ ⟨M', rfl, fun a a1 a2 a3 a4 => ?_, fun j j1 j2 => ?_, fun _ => ?_, fun j hj => ?_, fun j hj => ?_⟩
          · rw [g2.1 a a2 a3 a4]; exact p1 a a1 a2 a3 a4
          · rw [g2.2 j j1 j2, p2]; exact h2 j j1 j2
          · rw [runS_s, if_neg (show ¬ noH (0 + i) = true from Bool.false_ne_true), Nat.zero_add]
            exact ⟨g3, g4⟩
          · rw [g2.1 15 (by omega) (by omega) (by omega)]; exact p4 j hj
          · rw [g2.1 15 (by omega) (by omega) (by omega)]; exact p5 j hj
        · rw [if_pos (show (24 : Int32) ≤ nI i from nI_le (a := 24) (by omega) (by omega)), nI_1]
          exact hk _ ⟨_, rfl, p1, fun j j1 j2 => by rw [p2]; exact h2 j j1 j2, fun h => absurd h (by omega), p4, p5⟩
      by_cases hin : n ≤ i
      · rw [if_pos (nI_le hin (by omega))]
        exact key 0 (by rw [if_neg (by omega)])
      · rw [if_neg (nI_ge (by omega) (by omega))]
        exact key _ (by rw [if_pos (by omega)]; exact (h3 (by omega)).1)
    · rintro r ⟨g1, g2, g3, g4, g5⟩
      exact ⟨r.2, by rw [g1, ← g2], g3, g4, g5⟩
  obtain ⟨W, w1, w2, w3, w4, w5⟩ := hml
  rw [show h_lp (fX9_film_L67 (nI s) (nI n)) h_FU (0, Y) = _ from z1, w1]
  have zr : ∀ a, a ≠ 80 + 2 * s → a ≠ 80 + 2 * s + 1 → Z a = X2 a := fun a h1 h2 => by rw [z2 a h2, Yr a h1 h2]
  refine EqC.now (R.sheets ?_ ?_ ?_ ?_ ?_)
  · intro a ka h2
    unfold kX at ka
    rw [zr a (by omega) (by omega), hx2 a (by omega)]
  · rw [zr 30 (by omega) (by omega), hx2 30 (by omega)]
  · intro a ka h2
    unfold kM at ka
    rw [w2 a (by omega) (by omega) (by omega) (by omega), nr a (by omega) (by omega)]
  · intro j hj
    unfold kM0 at hj
    rw [w3 j (by omega) (by omega), nr 0 (by omega) (by omega)]
  · intro t ht
    obtain ⟨p1, p2, p3, p4, p5⟩ := R.shs t ht
    rw [w2 13 (by omega) (by omega) (by omega) (by omega), w2 14 (by omega) (by omega) (by omega) (by omega), n13, n14]
    by_cases e : t = s
    · subst e
      rw [u_s, u_s, z2 _ (by omega), Y0, Y1]
      refine ⟨rfl, rfl, Or.inr (ib_mk (j := 2) (by omega) (by omega)), ib_mk (by omega) (by omega), fun i hi => ?_⟩
      rw [show 81 + 2 * t = 80 + 2 * t + 1 from by omega, z3 i hi, w4 i hi]
    · rw [u_n e, u_n e, zr _ (by omega) (by omega), zr _ (by omega) (by omega), hx2 _ (by omega), hx2 _ (by omega)]
      refine ⟨p1, p2, p3, p4, fun i hi => ?_⟩
      rw [w5 _ (by omega), nr 15 (by omega) (by omega)]
      exact p5 i hi
end
section
/-! SAVE -/
theorem frst_none {p : Nat → Bool} : ∀ {n i : Nat}, (∀ j, i ≤ j → j < i + n → p j = false) → frst p n i = none
  | 0, _, _ => rfl
  | n + 1, i, h => by
    rw [frst_s, h i (Nat.le_refl _) (by omega), if_neg (by decide)]
    exact frst_none (fun j h1 h2 => h j (by omega) (by omega))
theorem frst_tail {p : Nat → Bool} : ∀ {a b i : Nat}, (∀ j, i + a ≤ j → j < i + a + b → p j = false) → frst p (a + b) i = frst p a i
  | 0, b, i, h => by rw [Nat.zero_add, frst_none (fun j h1 h2 => h j (by omega) (by omega))]; rfl
  | a + 1, b, i, h => by
    rw [show a + 1 + b = (a + b) + 1 from by omega, frst_s, frst_s]
    by_cases c : p i = true
    · rw [if_pos c, if_pos c]
    · rw [if_neg c, if_neg c]
      exact frst_tail (fun j h1 h2 => h j (by omega) (by omega))
theorem frst_no {p : Nat → Bool} : ∀ {n i : Nat}, frst p n i = none → ∀ j, i ≤ j → j < i + n → p j = false
  | 0, _, _, j, h1, h2 => absurd h2 (by omega)
  | n + 1, i, h, j, h1, h2 => by
    rw [frst_s] at h
    by_cases c : p i = true
    · rw [if_pos c] at h; cases h
    · rw [if_neg c] at h
      by_cases e : j = i
      · subst e; exact eq_false_of_ne_true c
      · exact frst_no h j (by omega) (by omega)
def hdS (w : hWd) (s : Nat × Nat) (f k : Nat) : Nat × Nat := runS (fun t => decide (f ≤ t ∧ t < f + k)) w 0 24 s
def dryB (w : hWd) (s : Nat × Nat) (k f : Nat) : Bool := !bt (w.1 1) (hdS w s f k).1
theorem hdS_late {w : hWd} {s : Nat × Nat} {f k : Nat} (h1 : 24 ≤ f + k) (h2 : f ≤ 24) : hdS w s f k = hdS w s f (24 - f) := by
  unfold hdS
  exact runS_c (fun j hj => by
    have : (f ≤ 0 + j ∧ 0 + j < f + k) ↔ (f ≤ 0 + j ∧ 0 + j < f + (24 - f)) := by omega
    simp only [this])
theorem x_wet {X : hMem} {P : Int32} (hP : X 40 1 = P) {s : Nat × Nat} (h1 : s.1 < 32) (h2 : s.2 < 3) {α : Type} (A B : α) : (if fX8_isWet (nI (stN s)) X = 0 then A else B) = if (!bt P s.1) = true then A else B := by
  unfold fX8_isWet
  rw [x_sqS h1 h2, hP, bit_u _ h1, b01]
  cases bt P s.1 <;> rfl
theorem x_save62 {w : hWd} {T : Nat} {X : hMem} {s : Nat × Nat} (ok : okW w) (mx : MX w T X) (h1 : s.1 < 32) (h2 : s.2 < 3) (h47 : ∀ n, n ≤ 24 → X 47 n = nI (stN (runS noH w 0 n s))) (k54 : Int32 × hMem → Option (Int32 × hMem)) {m : Nat} (hm : m ≤ 24) : ∀ (fuel d j : Nat) (Y : hMem), j + d = 25 - m → d < fuel → kT X Y → ∃ Y', kT X Y' ∧ h_lp (fX9_save_L62 k54 (nI m)) fuel (nI j, Y) = (match frst (dryB w s m) d j with | some f => some (nI (100 * f + m), Y') | none => k54 (nI (m + 1), Y')) := by
  intro fuel
  induction fuel with
  | zero => intro d j Y _ h; exact absurd h (Nat.not_lt_zero _)
  | succ fuel ih =>
    intro d j Y hjd hf kY
    rw [lp_s]
    generalize hgo : h_lp (fX9_save_L62 k54 (nI m)) fuel = go
    rw [hgo] at ih
    unfold fX9_save_L62
    dsimp only
    rw [nI_add, nI_1]
    cases d with
    | zero =>
      rw [if_pos (show (24 : Int32) < nI (j + m) from nI_lt (a := 24) (by omega) (by omega))]
      exact ⟨Y, kY, rfl⟩
    | succ d =>
      rw [if_neg (show ¬ (24 : Int32) < nI (j + m) from nI_nlt (a := 24) (by omega) (by omega)), if_pos (ib_mk (by omega) (by omega)), nI_clamp (by omega), kY 47 (by omega) (by omega), h47 j (by omega)]
      have hL := runS_lt (hl := noH) (w := w) (a := 0) h1 h2 j
      obtain ⟨Z, z1, z2⟩ := x_later ok (mx.kT kY) (a := j + m) (b := 24) (s := runS noH w 0 j s) (by omega) (by omega) hL.1 hL.2
      have hL2 := runS_lt (hl := noH) (w := w) (a := j + m) hL.1 hL.2 (24 - (j + m))
      have eh : hdS w s j m = runS noH w (j + m) (24 - (j + m)) (runS noH w 0 j s) := by
        unfold hdS
        rw [run_held, Nat.min_eq_right (by omega), Nat.min_eq_right (by omega)]
      rw [show fX8_later (nI (stN (runS noH w 0 j s))) (nI (j + m)) 24 Y = _ from z1, Option.bind_some]
      dsimp only
      rw [x_wet ((mx.kT (kY.tr z2)).2.1) hL2.1 hL2.2, frst_s]
      have ed : dryB w s m j = !bt (w.1 1) (runS noH w (j + m) (24 - (j + m)) (runS noH w 0 j s)).1 := by unfold dryB; rw [eh]
      rw [ed]
      by_cases c : (!bt (w.1 1) (runS noH w (j + m) (24 - (j + m)) (runS noH w 0 j s)).1) = true
      · rw [if_pos c, if_pos c, show (100 : Int32) * nI j = nI (100 * j) from pk_mul 100 j, nI_add]
        exact ⟨Z, kY.tr z2, rfl⟩
      · rw [if_neg c, if_neg c, nI_1]
        exact ih d (j + 1) Z (by omega) (by omega) (kY.tr z2)
def kH (M M' : hMem) : Prop := (∀ a, a ≠ 0 → a ≠ 19 → a ≠ 20 → M' a = M a) ∧ (∀ j, j ≠ 36 → j ≠ 37 → j ≠ 38 → j ≠ 39 → M' 0 j = M 0 j) ∧ M' 0 39 = 0
theorem kH.tr {X Y Z : hMem} (h : kH X Y) (g : kH Y Z) : kH X Z := ⟨fun a h1 h2 h3 => (g.1 a h1 h2 h3).trans (h.1 a h1 h2 h3), fun j h1 h2 h3 h4 => (g.2.1 j h1 h2 h3 h4).trans (h.2.1 j h1 h2 h3 h4), g.2.2⟩
theorem kS.H {M M' : hMem} (k : kS M M') (h : M 0 39 = 0) : kH M M' := ⟨k.1, fun j h1 h2 _ _ => k.2 j h1 h2, by rw [k.2 39 (by omega) (by omega)]; exact h⟩
theorem MM.kH {w : hWd} {h : Nat} {c e : Nat → Int32} {M M' : hMem} (m : MM w h c e M) (k : kH M M') : MM w h c e M' := m.ext (fun a h1 h2 => k.1 a (by omega) (by omega) (by omega)) (k.2.1 15 (by omega) (by omega) (by omega) (by omega))
theorem kH.keep {M M' : hMem} (k : kH M M') (h : M 0 39 = 0) : keepM M M' := by
  refine ⟨fun a ha => ?_, fun j hj => ?_⟩
  · unfold kM at ha; exact k.1 a (by omega) (by omega) (by omega)
  · unfold kM0 at hj
    by_cases e : j = 39
    · rw [e, k.2.2, h]
    · exact k.2.1 j (by omega) (by omega) (by omega) e
theorem m_save38 {w : hWd} {h q l : Nat} {c e : Nat → Int32} {M : hMem} (ok : okW w) (mm : MM w h c e M) (hq : q < 32) (hl : l < 3) (h6 : M 6 h = nI q) (h7 : M 7 h = nI l) (k30 : Int32 × hMem → Option (Int32 × hMem)) {m : Nat} (hm : m ≤ 24) : ∀ (fuel d j : Nat) (N : hMem), j + d = 24 → d < fuel → kH M N → ∃ N', kH M N' ∧ h_lp (fX10_save_L38 k30 (nI h) (nI m)) fuel (nI j, N) = (match frst (dryB w (q, l) m) d j with | some f => some (nI (100 * f + m), N') | none => k30 (nI (m + 1), N')) := by
  intro fuel
  induction fuel with
  | zero => intro d j Y _ h; exact absurd h (Nat.not_lt_zero _)
  | succ fuel ih =>
    intro d j N hjd hf kN
    rw [lp_s]
    generalize hgo : h_lp (fX10_save_L38 k30 (nI h) (nI m)) fuel = go
    rw [hgo] at ih
    unfold fX10_save_L38
    dsimp only
    rw [nI_1]
    cases d with
    | zero =>
      rw [if_pos (show (24 : Int32) ≤ nI j from nI_le (a := 24) (by omega) (by omega))]
      exact ⟨N, kN, rfl⟩
    | succ d =>
      rw [if_neg (show ¬ (24 : Int32) ≤ nI j from nI_ge (b := 24) (by omega) (by omega))]
      obtain ⟨M2, g1, g2, g3, g4⟩ := m_sqHeld ok (mm.kH kN) (n := 24) (f := j) (k := m) (by omega) hq hl (by rw [kN.1 6 (by omega) (by omega) (by omega)]; exact h6) (by rw [kN.1 7 (by omega) (by omega) (by omega)]; exact h7) (by omega) (by omega)
      have k2 : kH M M2 := kN.tr ⟨g2, g3, g4⟩
      have hL := runS_lt (hl := fun t => decide (j ≤ t ∧ t < j + m)) (w := w) (a := 0) (s := (q, l)) hq hl 24
      rw [show fX10_squareHeld (nI h) 24 (nI j) (nI m) N = _ from g1, Option.bind_some]
      dsimp only
      rw [me_has1 hL.1, Option.bind_some, b01, (mm.kH k2).2.1 1 (by omega), frst_s]
      have ed : dryB w (q, l) m j = !bt (w.1 1) (runS (fun t => decide (j ≤ t ∧ t < j + m)) w 0 24 (q, l)).1 := rfl
      rw [ed]
      cases c : bt (w.1 1) (runS (fun t => decide (j ≤ t ∧ t < j + m)) w 0 24 (q, l)).1
      · rw [if_neg (by decide), if_pos (show (!false) = true from rfl), show (100 : Int32) * nI j = nI (100 * j) from pk_mul 100 j, nI_add]
        exact ⟨M2, k2, rfl⟩
      · rw [if_pos rfl, if_neg (show ¬ (!true) = true from by decide), nI_1]
        exact ih d (j + 1) M2 (by omega) (by omega) k2
theorem eq_save {X M : hMem} (R : RR X M) (a : Int32) : EqC (fX9_save a X) (fX10_save a M) := by
  obtain ⟨H, hH, hx, hm⟩ := R.hats
  unfold fX9_save fX10_save
  rw [xe_hat hx (by omega), me_hat hm (by omega), b01, b01]
  by_cases ha : h_ib a H
  rotate_left
  · rw [if_neg ha, if_neg ha]; exact EqC.now R
  rw [if_pos ha, if_pos ha]
  obtain ⟨h, hh, hh2, rfl⟩ := ib_ex ha
  obtain ⟨r, q, l, X1, r1, q1, l1, ok, mm, q2, l2, x1, x2, x3, x4, -, -⟩ := R.ctx hH hh
  obtain ⟨X2, f1, f2, f3⟩ := x_follow ok x2 (a := 47) (Or.inl rfl) x3 q1 l1
  obtain ⟨M2, g1, g2, -, -⟩ := m_behind ok mm (n := 24) (by omega) q1 l1 q2 l2
  have hld : hldM M = noH := funext fun j => hldM_0 R.hold j
  rw [hld] at g1
  have hL := runS_lt (hl := noH) (w := wOf X M h r) (a := 0) (s := (q, l)) q1 l1 24
  have kx : kP X1 X2 := fun a h1 h2 => f2 a (by omega) (by omega) h2
  have mx2 := x2.kP kx
  rw [x1, Option.bind_some, f1, Option.bind_some, show fX10_squareBehind (nI h) 24 M = _ from g1, Option.bind_some, f3 24 (by omega), x_wet mx2.2.1 hL.1 hL.2]
  dsimp only
  rw [me_has1 hL.1, Option.bind_some, b01, (mm.kS g2).2.1 1 (by omega)]
  have oX : kO X X2 := fun a h1 h2 => (kx a (by omega) h2).trans (x4 a h1)
  have k2 := g2.H R.hold
  generalize wOf X M h r = w at *
  cases cw : bt (w.1 1) (runS noH w 0 24 (q, l)).1
  · rw [if_pos (show (!false) = true from rfl), if_neg (by decide)]
    exact EqC.now (R.keep oX.X g2.keep)
  rw [if_neg (show ¬ (!true) = true from by decide), if_pos rfl]
  refine EqC.of (lpp (body := fX9_save_L54) (body' := fX10_save_L30 (nI h)) 25 (fun i z z' => ∃ (Y N : hMem), z = (nI i, Y) ∧ z' = (nI i, N) ∧ kT X2 Y ∧ kH M N ∧ 1 ≤ i ∧ ∀ k f, 1 ≤ k → k < i → f + k ≤ 24 → dryB w (q, l) k f = false) EqQ ?_ ?_ h_FU 1 _ _ (by omega) ⟨X2, M2, rfl, rfl, kT.rf X2, k2, by omega, fun k f h1 h2 => absurd h2 (by omega)⟩ (by unfold h_FU; omega))
  · rintro k k' z z' ⟨Y, N, rfl, rfl, kY, kN, -, -⟩
    unfold fX9_save_L54 fX10_save_L30
    dsimp only
    rw [if_pos (show (24 : Int32) < nI 25 from by decide), if_pos (show (24 : Int32) < nI 25 from by decide)]
    exact ⟨_, _, rfl, rfl, rfl, R.keep (oX.tr kY.P.O).X (kN.keep R.hold)⟩
  · rintro k k' m z z' hm ⟨Y, N, rfl, rfl, kY, kN, h1m, hist⟩ hk
    unfold fX9_save_L54 fX10_save_L30
    dsimp only
    rw [if_neg (show ¬ (24 : Int32) < nI m from nI_nlt (a := 24) (by omega) (by omega)), if_neg (show ¬ (24 : Int32) < nI m from nI_nlt (a := 24) (by omega) (by omega))]
    obtain ⟨Y', y1, y2⟩ := x_save62 ok mx2 q1 l1 f3 k (m := m) (by omega) h_FU (25 - m) 0 Y (by omega) (by unfold h_FU; omega) kY
    obtain ⟨N', n1, n2⟩ := m_save38 ok mm q1 l1 q2 l2 k' (m := m) (by omega) h_FU 24 0 N (by omega) (by unfold h_FU; omega) kN
    have et : frst (dryB w (q, l) m) 24 0 = frst (dryB w (q, l) m) (25 - m) 0 := by
      have := frst_tail (p := dryB w (q, l) m) (a := 25 - m) (b := m - 1) (i := 0) (fun j j1 j2 => by
        have := hist (24 - j) j (by omega) (by omega) (by omega)
        unfold dryB at this ⊢
        rw [hdS_late (by omega) (by omega)]
        exact this)
      rw [show 25 - m + (m - 1) = 24 from by omega] at this
      exact this
    rw [show h_lp (fX9_save_L62 k (nI m)) h_FU (0, Y) = _ from y2, show h_lp (fX10_save_L38 k' (nI h) (nI m)) h_FU (0, N) = _ from n2, et]
    cases hc : frst (dryB w (q, l) m) (25 - m) 0 with
    | some f => exact ⟨_, _, rfl, rfl, rfl, R.keep (oX.tr y1.P.O).X (n1.keep R.hold)⟩
    | none =>
      refine hk _ _ ⟨Y', N', rfl, rfl, y1, n1, by omega, fun k f k1 k2 k3 => ?_⟩
      by_cases e : k = m
      · subst e
        exact frst_no hc f (by omega) (by omega)
      · exact hist k f k1 (by omega) k3
end
section
/-! RUN -/
def vt (r : Nat → Int32) (M : hMem) : hMem := fun a => if a = 8 then r else M a
theorem vt_n (r : Nat → Int32) (M : hMem) {a : Nat} (h : a ≠ 8) : vt r M a = M a := if_neg h
theorem vt_s (r : Nat → Int32) (M : hMem) : vt r M 8 = r := if_pos rfl
theorem vt_c {r : Nat → Int32} {M M' : hMem} {a : Nat} (h : a ≠ 8 → M' a = M a) : vt r M' a = vt r M a := by
  by_cases e : a = 8
  · subst e; rw [vt_s, vt_s]
  · rw [vt_n r M' e, vt_n r M e]; exact h e
theorem wOf_vt (X M : hMem) (r8 : Nat → Int32) (h r : Nat) : wOf X (vt r8 M) h r = wOf X M h r := by
  unfold wOf
  simp (disch := omega) only [vt_n]
theorem MM.vt {w : hWd} {h : Nat} {c e : Nat → Int32} {r8 : Nat → Int32} {M : hMem} (m : MM w h c e (vt r8 M)) : MM w h c e M := by
  obtain ⟨h1, h2, h3, h4, h5, ⟨r, h6, h7, h8⟩, h9⟩ := m
  simp (disch := omega) only [vt_n] at h2 h3 h4 h5 h7 h8
  exact ⟨h1, h2, h3, h4, h5, ⟨r, h6, h7, h8⟩, h9⟩
theorem passes8 {X M : hMem} {r8 : Nat → Int32} (R : RR X (vt r8 M)) {H n h0 r0 q0 l0 : Nat} (hH : H ≤ 4) (hx : X 1 5 = nI H) (hm : M 0 3 = nI H) (hn : n ≤ 24) (hh0 : h0 < H) (hr0 : r0 < 6) (m15 : M 0 15 = nI r0) (q0l : q0 < 32) (l0l : l0 < 3) (h6 : M 6 h0 = nI q0) (h7 : M 7 h0 = nI l0) : ∃ X' M', fX9_letPass (nI n) X = some X' ∧ fX10_passes (nI n) M = some M' ∧ RR X' (vt r8 M') ∧ X' 1 5 = nI H ∧ M' 0 3 = nI H ∧ M' 8 = M 8 ∧ M' 6 h0 = nI (runS noH (wOf X M h0 r0) 0 n (q0, l0)).1 := by
  unfold fX9_letPass fX10_passes
  obtain ⟨r, r', g1, g2, g3⟩ := lp20 (body := fX9_letPass_L2 (nI n)) (body' := fX10_passes_L2 (nI n)) H (fun i s s' => ∃ X' M', s = (nI i, X') ∧ s' = (nI i, M') ∧ RR X' (vt r8 M') ∧ X' 1 5 = nI H ∧ M' 0 3 = nI H ∧ M' 8 = M 8 ∧ (∀ a, 56 ≤ a → a < 80 → a % 4 ≠ 3 → X' a = X a) ∧ (∀ a, 1 ≤ a → a ≤ 5 → M' a = M a) ∧ M' 0 15 = M 0 15 ∧ (i ≤ h0 → M' 6 h0 = M 6 h0 ∧ M' 7 h0 = M 7 h0) ∧ (h0 < i → M' 6 h0 = nI (runS noH (wOf X M h0 r0) 0 n (q0, l0)).1)) (fun r r' => RR r (vt r8 r') ∧ r 1 5 = nI H ∧ r' 0 3 = nI H ∧ r' 8 = M 8 ∧ r' 6 h0 = nI (runS noH (wOf X M h0 r0) 0 n (q0, l0)).1) (0, X) (0, M) ⟨X, M, rfl, rfl, R, hx, hm, rfl, fun _ _ _ _ => rfl, fun _ _ _ => rfl, rfl, fun _ => ⟨rfl, rfl⟩, fun h => absurd h (Nat.not_lt_zero _)⟩ (by omega) (by
    rintro k k' s s' ⟨X', M', rfl, rfl, R', hx', hm', e8, ex, em, e15, eb, ea⟩
    unfold fX9_letPass_L2 fX10_passes_L2
    dsimp only
    simp only [hx', hm']
    rw [if_pos (nI_le (Nat.le_refl _) (by omega)), if_pos (nI_le (Nat.le_refl _) (by omega))]
    exact ⟨_, _, rfl, rfl, R', hx', hm', e8, ea hh0⟩) (by
    rintro k k' i s s' hi ⟨X', M', rfl, rfl, R', hx', hm', e8, ex, em, e15, eb, ea⟩ hk
    unfold fX9_letPass_L2 fX10_passes_L2
    dsimp only
    simp only [hx', hm']
    rw [if_neg (nI_ge hi (by omega)), if_neg (nI_ge hi (by omega))]
    obtain ⟨r, q, l, X1, r1, q1, l1, ok, mm, q2, l2, x1, x2, x3, x4, m15', -⟩ := R'.ctx hH hi
    rw [wOf_vt] at ok mm x2
    rw [vt_n r8 M' (by omega)] at q2 l2 m15'
    have mm' := mm.vt
    have h39 : M' 0 39 = 0 := by have := R'.hold; rw [vt_n r8 M' (by omega)] at this; exact this
    obtain ⟨X2, y1, y2⟩ := x_later ok x2 (a := 0) (b := n) (s := (q, l)) (by omega) (by omega) q1 l1
    obtain ⟨M2, z1, z2, z3, z4⟩ := m_behind ok mm' (n := n) (by omega) q1 l1 q2 l2
    rw [x1, Option.bind_some, x3, show fX8_later (nI (stN (q, l))) 0 (nI n) X1 = _ from y1, z1, Option.bind_some, Option.bind_some, if_pos (ib_mk (by omega) (by decide)), if_pos (ib_mk (by omega) (by decide)), if_pos (ib_mk (by omega) (by decide)), nI_clamp (by omega)]
    dsimp only
    have hL := runS_lt (hl := noH) (w := wOf X' M' i r) (a := 0) (s := (q, l)) q1 l1 n
    have hld : hldM M' = noH := funext fun j => hldM_0 h39 j
    rw [hld] at z3 z4 ⊢
    rw [Nat.sub_zero, nI_1]
    have e37 : (h_up M2 6 i (nI (runS noH (wOf X' M' i r) 0 n (q, l)).1)) 0 37 = nI (runS noH (wOf X' M' i r) 0 n (q, l)).2 := by rw [m_row (by omega)]; exact z4
    rw [e37]
    have eh : i = h0 → runS noH (wOf X' M' i r) 0 n (q, l) = runS noH (wOf X M h0 r0) 0 n (q0, l0) := fun e => by
      subst e
      have er : r = r0 := by
        have h1 := m15'
        rw [e15, m15] at h1
        exact ((nI_eq (by omega) (by omega)).mp h1).symm
      subst er
      obtain ⟨eb1, eb2⟩ := eb (Nat.le_refl _)
      have eq : q = q0 := by
        have h1 := q2
        rw [eb1, h6] at h1
        exact ((nI_eq (by omega) (by omega)).mp h1).symm
      have el : l = l0 := by
        have h1 := l2
        rw [eb2, h7] at h1
        exact ((nI_eq (by omega) (by omega)).mp h1).symm
      subst eq el
      have ew : wOf X' M' i r = wOf X M i r := by
        unfold wOf
        rw [em 1 (by omega) (by omega), em 2 (by omega) (by omega), em 3 (by omega) (by omega), em 4 (by omega) (by omega), em 5 (by omega) (by omega), ex _ (by omega) (by omega) (by omega), ex _ (by omega) (by omega) (by omega)]
      rw [ew]
    generalize runS noH (wOf X' M' i r) 0 n (q, l) = z at hL eh ⊢
    have px : ∀ a, a < 40 ∨ 55 < a → ¬ (59 ≤ a ∧ a < 80 ∧ a % 4 = 3) → X2 a = X' a := fun a h1 h2 => by rw [y2 a (by omega) h2, x4 a h1]
    have pm := z2.1
    have pN : ∀ a, a ≠ 0 → a ≠ 6 → a ≠ 7 → a ≠ 19 → a ≠ 20 → (h_up (h_up M2 6 i (nI z.1)) 7 i (nI z.2)) a = M' a := fun a a0 a6 a7 a19 a20 => by
      rw [m_row a7, m_row a6]; exact pm a a0 a19 a20
    have pN0 : ∀ j, j ≠ 36 → j ≠ 37 → (h_up (h_up M2 6 i (nI z.1)) 7 i (nI z.2)) 0 j = M' 0 j := fun j j1 j2 => by
      rw [m_row (by omega), m_row (by omega)]; exact z2.2 j j1 j2
    have pN6 : ∀ u, (h_up (h_up M2 6 i (nI z.1)) 7 i (nI z.2)) 6 u = if u = i then nI z.1 else M' 6 u := fun u => by
      rw [m_row (by omega), m_own, u_e, pm 6 (by omega) (by omega) (by omega)]
    have pN7 : ∀ u, (h_up (h_up M2 6 i (nI z.1)) 7 i (nI z.2)) 7 u = if u = i then nI z.2 else M' 7 u := fun u => by
      rw [m_own, u_e, m_row (by omega), pm 7 (by omega) (by omega) (by omega)]
    generalize h_up (h_up M2 6 i (nI z.1)) 7 i (nI z.2) = N at *
    refine hk _ _ ⟨_, N, rfl, rfl, R'.now ?_ ?_ ?_ ?_ ?_, ?_, ?_, ?_, ?_, ?_, ?_, ?_, ?_⟩
    · intro a ka h2
      unfold kX at ka
      rw [m_row (by omega)]; exact px a (by omega) (by omega)
    · rw [m_row (by omega)]; rw [px 30 (by omega) (by omega)]
    · intro a ka h2
      unfold kM at ka
      exact vt_c (fun e => pN a (by omega) (by omega) (by omega) (by omega) (by omega))
    · intro j hj h3 h8 h15
      unfold kM0 at hj
      rw [vt_n _ _ (by omega), vt_n _ _ (by omega)]; exact pN0 j (by omega) (by omega)
    · intro T _ _ _ nn
      refine gNow_h nn ?_ ?_ ?_ ?_
      · intro a h1 h2 h3; rw [m_row (by omega)]; exact px a (by omega) (by omega)
      · intro a h1 h2 h3; exact vt_c (fun e => pN a (by omega) (by omega) (by omega) (by omega) (by omega))
      · intro j hj
        unfold kM0 at hj
        rw [vt_n _ _ (by omega), vt_n _ _ (by omega)]; exact pN0 j (by omega) (by omega)
      · intro u hu
        have ho := nn.2.2.1 u hu
        dsimp only at ho
        simp (disch := omega) only [vt_n] at ho ⊢
        rw [pN 4 (by omega) (by omega) (by omega) (by omega) (by omega), pN 5 (by omega) (by omega) (by omega) (by omega) (by omega), pN6, pN7]
        by_cases e : u = i
        · rw [e] at ho ⊢
          rw [m_own, u_n (by omega), u_n (by omega), u_s, if_pos rfl, if_pos rfl, px (7 + i) (by omega) (by omega)]
          refine ⟨ho.1, ho.2.1, ?_, ho.2.2.2.1, ho.2.2.2.2.1, ib_mk hL.1 (by decide), ib_mk hL.2 (by decide)⟩
          rw [show (32 : Int32) = nI 32 from rfl, pk_mul, nI_add]
          congr 1
          show 32 * z.2 + z.1 = _
          omega
        · rw [m_row (by omega), if_neg e, if_neg e, px (7 + u) (by omega) (by omega)]
          exact ho
    · rw [m_row (by omega), px 1 (by omega) (by omega)]; exact hx'
    · rw [pN0 3 (by omega) (by omega)]; exact hm'
    · rw [pN 8 (by omega) (by omega) (by omega) (by omega) (by omega)]; exact e8
    · intro a h1 h2 h3; rw [m_row (by omega), px a (by omega) (by omega)]; exact ex a h1 h2 h3
    · intro a h1 h2; rw [pN a (by omega) (by omega) (by omega) (by omega) (by omega)]; exact em a h1 h2
    · rw [pN0 15 (by omega) (by omega)]; exact e15
    · intro h; rw [pN6, pN7, if_neg (by omega), if_neg (by omega)]; exact eb (by omega)
    · intro h
      rw [pN6]
      by_cases e : h0 = i
      · rw [if_pos e, eh e.symm]
      · rw [if_neg e]; exact ea (by omega))
  exact ⟨r, r', g1, g2, g3⟩
theorem eq_remove {X M : hMem} (R : RR X M) {H h : Nat} (hH : H ≤ 4) (hx : X 1 5 = nI H) (hm : M 0 3 = nI H) (hh : h < H) (v : Int32) : ∃ X' M', fX7_removeHat (nI h) X = some X' ∧ h_lp (fX10_run_L47 v) h_FU (nI h, M) = some (v, M') ∧ RR X' M' := by
  unfold fX7_removeHat
  obtain ⟨r, r', g1, g2, g3, g4⟩ := lpp (body := fX7_removeHat_L2) (body' := fX10_run_L47 v) (H - 1) (fun i z z' => ∃ X' M', z = (nI i, X') ∧ z' = (nI i, M') ∧ RR X' M' ∧ X' 1 5 = nI H ∧ M' 0 3 = nI H) (fun r r' => r'.1 = v ∧ RR r r'.2) (by
    rintro k k' z z' ⟨X', M', rfl, rfl, R', hx', hm'⟩
    unfold fX7_removeHat_L2 fX10_run_L47
    dsimp only
    simp only [hx', hm', nI_1, show H - 1 + 1 = H from by omega]
    rw [if_pos (nI_le (Nat.le_refl _) (by omega)), if_pos (nI_le (Nat.le_refl _) (by omega))]
    refine ⟨_, _, rfl, rfl, rfl, R'.now ?_ ?_ ?_ ?_ ?_⟩
    · intro q _ h2; simp (disch := omega) only [m_row]
    · simp (disch := omega) only [m_row]
    · intro q _ h2; simp (disch := omega) only [m_row]
    · intro j hj h3 _ _; simp (disch := omega) only [m_own, u_n]
    · intro T _ _ _ n
      refine gNow_n n ?_ ?_ ?_ ?_ ?_
      · intro q _ h2; simp (disch := omega) only [m_row]
      · intro q _ h2; simp (disch := omega) only [m_row]
      · simp (disch := omega) only [m_own, u_s, nI_sub1 (show 1 ≤ H by omega)]; exact ⟨rfl, ib_mk (by omega) (by omega)⟩
      · simp (disch := omega) only [m_own, u_n]; exact n.2.2.2.2.2.1
      · simp (disch := omega) only [m_own, u_n]; exact n.2.2.2.2.2.2) (by
    rintro k k' i z z' hi ⟨X', M', rfl, rfl, R', hx', hm'⟩ hk
    unfold fX7_removeHat_L2 fX10_run_L47 fX10_run_L106 fX2_become
    dsimp only
    simp only [hx', hm', nI_1]
    rw [if_neg (nI_ge (by omega) (by omega)), if_neg (nI_ge (by omega) (by omega))]
    have i4 : h_ib (nI i) 4 := ib_mk (by omega) (by omega)
    have j4 : h_ib (nI (i + 1)) 4 := ib_mk (by omega) (by omega)
    simp only [if_pos i4, if_pos j4, nI_clamp (show i < 2 ^ 31 by omega), nI_clamp (show i + 1 < 2 ^ 31 by omega), show h_isB hYx (7 + i) 2 0 = true from ((img_isB 1 (Or.inl rfl)).2 i (by omega)).1, show h_isB hYx (7 + (i + 1)) 2 0 = true from ((img_isB 1 (Or.inl rfl)).2 (i + 1) (by omega)).1, if_true, Option.bind_some]
    simp (disch := omega) only [m_row]
    refine hk _ _ ⟨_, _, rfl, rfl, R'.now ?_ ?_ ?_ ?_ ?_, ?_, ?_⟩
    · intro q _ h2; simp (disch := omega) only [m_row]
    · simp (disch := omega) only [m_row]
    · intro q _ h2; simp (disch := omega) only [m_row]
    · intro j hj h3 _ _; simp (disch := omega) only [m_row]
    · intro T _ _ _ n
      refine gNow_h n ?_ ?_ ?_ ?_
      · intro q _ _ _; simp (disch := omega) only [m_row]
      · intro q _ _ _; simp (disch := omega) only [m_row]
      · intro j hj; simp (disch := omega) only [m_row]
      · intro u hu
        have h1 := n.2.2.1 u hu
        have h2 := n.2.2.1 (i + 1) (by omega)
        dsimp only at h1 h2
        simp (disch := omega) only [m_row, m_own]
        by_cases e : u = i
        · subst e
          simp (disch := omega) only [m_own, u_s, u_n]
          exact h2
        · simp (disch := omega) only [m_row, u_n]
          exact h1
    · simp (disch := omega) only [m_row]; exact hx'
    · simp (disch := omega) only [m_row]; exact hm') h_FU h (nI h, X) (nI h, M) (by omega) ⟨X, M, rfl, rfl, R, hx, hm⟩ (by unfold h_FU; omega)
  exact ⟨r, r'.2, g1, by rw [g2, ← g3], g4⟩
theorem eq_run {X M : hMem} (R : RR X M) (a b : Int32) : EqC (fX9_run a b X) (fX10_run a b M) := by
  obtain ⟨H, hH, hx, hm⟩ := R.hats
  obtain ⟨C, hC, cx, cm⟩ := R.cats
  unfold fX9_run fX10_run
  rw [xe_hat hx (by omega), xe_cat cx (by omega), b01, b01, there_m hm cm (by omega) (by omega)]
  by_cases ha : h_ib a H
  rotate_left
  · simp only [if_neg ha, if_true]; exact EqC.now R
  by_cases hb : h_ib b C
  rotate_left
  · simp only [if_pos ha, if_neg hb, if_true]; exact EqC.now R
  simp only [if_pos ha, if_pos hb]
  rw [if_neg (show ¬ (1 : Int32) = 0 from by decide)]
  obtain ⟨h, hh, h2, rfl⟩ := ib_ex ha
  obtain ⟨p, p1, p2, rfl⟩ := ib_ex hb
  obtain ⟨r, q, l, X1, r1, q1, l1, ok, mm, q2, l2, x1, x2, x3, x4, m15, -⟩ := R.ctx hH hh
  obtain ⟨c0, pa, re, c1, pp1, e1, m0, m1, m2, y0, y1, y2⟩ := R.cctx (p := p) (by omega)
  have hp4 : p < 4 := by omega
  obtain ⟨X2, f1, f2, f3⟩ := x_hadBy ok x2 (s := (q, l)) x3 q1 l1 hp4 c1 pp1 e1 (by rw [x4 _ (by omega)]; exact y0) (by rw [x4 _ (by omega)]; exact y1) (by rw [x4 _ (by omega)]; exact y2)
  obtain ⟨M2, g1, g2, g3⟩ := m_hadBy ok mm R.hold q1 l1 q2 l2 hp4 c1 pp1 e1 m0 m1 m2
  unfold fX9_hadNow
  rw [x1, Option.bind_some, if_pos (ib_mk hp4 (by decide))]
  simp only [nI_clamp p2, nI_clamp h2]
  rw [f1, Option.bind_some, g1]
  simp only [Option.bind_some]
  have oX : kO X X2 := fun a h1 h2 => (f2 a (by omega) (by omega) h2).trans (x4 a h1)
  have R2 := R.keep oX.X g2.keep
  have oo := hadS_ok (W := (wOf X M h r).1 0) (c0 := c0) (m := 0) (pace := pa) (reach := re) (sq := fun n => (runS noH (wOf X M h r) 0 n (q, l)).1) (by omega)
  have ol := fun n hn => hadS_lt (W := (wOf X M h r).1 0) (c0 := c0) (m := 0) (pace := pa) (reach := re) (sq := fun n => (runS noH (wOf X M h r) 0 n (q, l)).1) (n := n) hn (by omega)
  generalize hadS ((wOf X M h r).1 0) c0 0 pa re (fun n => (runS noH (wOf X M h r) 0 n (q, l)).1) = o at *
  rw [ans_ge oo, ans_m1 oo]
  cases o with
  | none =>
    rw [if_pos rfl, if_pos rfl]; exact EqC.now R2
  | some n =>
    rw [if_neg (fun q => (by cases q)), if_neg (fun q => (by cases q)), show (3 : Int32) * nI p = nI (3 * p) from pk_mul 3 p, if_pos (show h_ib (nI (3 * p)) 12 from ib_mk (by omega) (by omega)), nI_clamp (show 3 * p < 2 ^ 31 by omega)]
    obtain ⟨g36, -⟩ := g3 n rfl
    have hL := runS_lt (hl := noH) (w := wOf X M h r) (a := 0) (s := (q, l)) q1 l1 n
    rw [g36]
    have er8 : RR X2 (vt (M2 8) (h_up M2 8 (3 * p) (nI (runS noH (wOf X M h r) 0 n (q, l)).1))) := by
      have : vt (M2 8) (h_up M2 8 (3 * p) (nI (runS noH (wOf X M h r) 0 n (q, l)).1)) = M2 := by
        funext a
        by_cases e : a = 8
        · subst e; rw [vt_s]
        · rw [vt_n _ _ e, m_row e]
      rw [this]; exact R2
    have ew : wOf X2 (h_up M2 8 (3 * p) (nI (runS noH (wOf X M h r) 0 n (q, l)).1)) h r = wOf X M h r := by
      unfold wOf
      simp (disch := omega) only [m_row]
      rw [g2.1 1 (by omega), g2.1 2 (by omega), g2.1 3 (by omega), g2.1 4 (by omega), g2.1 5 (by omega), oX _ (by omega) (by omega), oX _ (by omega) (by omega)]
    obtain ⟨X3, M3, p1', p2', R3, hx3, hm3, e8, e6⟩ := passes8 er8 (H := H) (n := n) (h0 := h) (r0 := r) (q0 := q) (l0 := l) hH (by rw [oX 1 (by omega) (by omega)]; exact hx) (by rw [m_row (by omega), g2.2 3 (by omega) (by omega)]; exact hm) (by have := ol n rfl; omega) hh r1 (by rw [m_row (by omega), g2.2 15 (by omega) (by omega)]; exact m15) q1 l1 (by rw [m_row (by omega), g2.1 6 (by omega)]; exact q2) (by rw [m_row (by omega), g2.1 7 (by omega)]; exact l2)
    rw [ew] at e6
    obtain ⟨q', l', q1', l1', e6', e7', e5'⟩ := R3.sqE (h := h) (by omega)
    rw [vt_n _ _ (by omega)] at e6'
    show EqC ((fX9_letPass (nI n) X2).bind _) ((fX10_passes (nI n) _).bind _)
    rw [p1', p2', Option.bind_some, Option.bind_some, if_pos (ib_mk (by omega) (by omega)), e5', x_sqS (s := (q', l')) q1' l1', ← e6', e6]
    have RF : RR (h_up X3 (11 + p) 0 (nI (runS noH (wOf X M h r) 0 n (q, l)).1)) M3 := by
      refine R3.now ?_ ?_ ?_ ?_ ?_
      · intro a ka h2; unfold kX at ka; rw [m_row (by omega)]
      · rw [m_row (by omega)]
      · intro a ka h2; rw [vt_n _ _ (by omega)]
      · intro j hj _ _ _; rw [vt_n _ _ (by omega)]
      · intro T _ _ _ nn
        refine gNow_p nn ?_ ?_ ?_ ?_
        · intro a h1 h2; rw [m_row (by omega)]
        · intro a h1 h2; rw [vt_n _ _ (by omega)]
        · intro j hj; rw [vt_n _ _ (by omega)]
        · intro i hi
          obtain ⟨t0, t1, t2, t3, t4, t5⟩ := nn.2.2.2.1 i hi
          rw [vt_s] at t0 t1 t2 t3 t4 t5
          rw [e8, m_own]
          by_cases e : i = p
          · subst e
            simp (disch := omega) only [m_own, u_s, u_n]
            exact ⟨trivial, t1, t2, ib_mk hL.1 (by omega), t4, t5⟩
          · simp (disch := omega) only [m_row, u_n]
            exact ⟨t0, t1, t2, t3, t4, t5⟩
    obtain ⟨X4, M4, k1, k2, R4⟩ := eq_remove RF hH (by rw [m_row (by omega)]; exact hx3) hm3 hh (nI n)
    rw [if_pos (ib_mk (by omega) (by omega)), k1, Option.bind_some]
    exact ⟨nI n, X4, M4, rfl, k2, R4⟩
end
section
/-! LOWEST -/
def loX (c n b : Int32) : Option Int64 := (fX9_commonDivisor c n hM0).bind fun d => if b = 0 then (if d = 0 then none else some (c / d).toInt64) else (if d = 0 then none else some (n / d).toInt64)
def loM (c n b : Int32) : Option Int64 := fX10_lowest c.toInt64 n.toInt64 b hM0
theorem lo_eq {c n b : Nat} (hc : c < 31) (hn : n < 30) (hb : b < 2) : ∃ v, loX (nI c) (nI (n + 1)) (nI b) = some v ∧ loM (nI c) (nI (n + 1)) (nI b) = some v := by
  have h := dc2 (N := 31) (K := 60) (p := fun c k => match loX (nI c) (nI (k / 2 + 1)) (nI (k % 2)), loM (nI c) (nI (k / 2 + 1)) (nI (k % 2)) with | some v, some w => decide (v = w) | _, _ => false) (by decide +kernel) hc (show 2 * n + b < 60 by omega)
  rw [show (2 * n + b) / 2 = n from by omega, show (2 * n + b) % 2 = b from by omega] at h
  revert h
  cases loX (nI c) (nI (n + 1)) (nI b) with
  | none => intro h; cases h
  | some v =>
    cases loM (nI c) (nI (n + 1)) (nI b) with
    | none => intro h; cases h
    | some w => intro h; exact ⟨v, rfl, by rw [of_decide_eq_true h]⟩
end
section
/-! DRAWN, ODDS -/
theorem l_bm {n : Nat} (h : n < 2 ^ 63) : ((n : Int)).bmod (2 ^ 64) = n := Int.bmod_eq_of_le (by omega) (by omega)
theorem l_mul {x y : Int64} {n m : Nat} (hx : x.toInt = n) (hy : y.toInt = m) (h : n * m < 2 ^ 63) : (x * y).toInt = ((n * m : Nat) : Int) := by
  rw [Int64.toInt_mul, hx, hy, ← Int.natCast_mul, l_bm h]
theorem l_div {x y : Int64} {n m : Nat} (hx : x.toInt = n) (hy : y.toInt = m) (h : n < 2 ^ 63) : (x / y).toInt = ((n / m : Nat) : Int) := by
  have hd := Nat.div_le_self n m
  rw [Int64.toInt_div, hx, hy, show ((n : Int).tdiv (m : Int)) = ((n / m : Nat) : Int) from rfl, l_bm (by omega)]
theorem l_rem {x y : Int64} {n m : Nat} (hx : x.toInt = n) (hy : y.toInt = m) (h : n < 2 ^ 63) : (h_lrem x y).toInt = ((n % m : Nat) : Int) := by
  have h1 := l_div hx hy h
  have hmd : n / m * m ≤ n := Nat.div_mul_le_self n m
  have h2 := l_mul h1 hy (by omega)
  have h3 : n % m = n - n / m * m := by
    have := Nat.div_add_mod n m
    rw [Nat.mul_comm] at this
    omega
  unfold h_lrem
  rw [Int64.toInt_sub, hx, h2, show (n : Int) - ((n / m * m : Nat) : Int) = ((n - n / m * m : Nat) : Int) from by omega, l_bm (by omega), h3]
theorem l_i32 {x : Int64} {n : Nat} (hx : x.toInt = n) (h : n < 2 ^ 31) : x.toInt32 = nI n := by
  apply Int32.toInt_inj.mp
  rw [Int64.toInt_toInt32, hx, nI_toInt h]
  exact Int.bmod_eq_of_le (by omega) (by omega)
def lotS (s : Int64) : Nat → Int64
  | 0 => s
  | n + 1 => h_lrem (lotS s n * 48271) 2147483647
theorem lotS_s (s : Int64) (n : Nat) : lotS s (n + 1) = h_lrem (lotS s n * 48271) 2147483647 := rfl
def gW (s : Int64) (t : Nat) : Int32 := (h_lrem (lotS s (t + 1)) 5).toInt32
def gT (s : Int64) (t : Nat) : Int32 := (h_lrem (lotS s (t + 1) / 5) 10).toInt32
theorem lotS_b {s : Int64} {k : Nat} (hs : s.toInt = k) (hk : k < 2 ^ 31) : ∀ n, ∃ j, j < 2 ^ 31 ∧ (lotS s n).toInt = (j : Nat)
  | 0 => ⟨k, hk, hs⟩
  | n + 1 => by
    obtain ⟨j, hj, ej⟩ := lotS_b hs hk n
    have h1 := l_mul (y := 48271) (m := 48271) ej (by decide) (by omega)
    have h2 := l_rem (y := 2147483647) (m := 2147483647) h1 (by decide) (by omega)
    exact ⟨_, by have := Nat.mod_lt (j * 48271) (show 0 < 2147483647 by decide); omega, h2⟩
theorem gW_b {s : Int64} {k : Nat} (hs : s.toInt = k) (hk : k < 2 ^ 31) (t : Nat) : h_ib (gW s t) 5 := by
  obtain ⟨j, hj, ej⟩ := lotS_b hs hk (t + 1)
  have h2 := l_rem (y := 5) (m := 5) ej (by decide) (by omega)
  unfold gW
  have := Nat.mod_lt j (show 0 < 5 by decide)
  rw [l_i32 h2 (by omega)]
  exact ib_mk (by omega) (by omega)
theorem seed1 {j : Nat} (hj : j < 2 ^ 30) : (nI j + 1).toInt64 = (nI j).toInt64 + 1 ∧ ((nI j).toInt64 + 1).toInt = ((j + 1 : Nat) : Int) := by
  have e1 : (nI j).toInt64.toInt = (j : Nat) := by rw [Int32.toInt_toInt64, nI_toInt (by omega)]
  have e2 : ((nI j).toInt64 + 1).toInt = ((j + 1 : Nat) : Int) := by
    rw [Int64.toInt_add, e1, show ((1 : Int64)).toInt = 1 from by decide, show (j : Int) + 1 = ((j + 1 : Nat) : Int) from by omega, l_bm (by omega)]
  refine ⟨Int64.toInt_inj.mp ?_, e2⟩
  rw [e2, nI_1, Int32.toInt_toInt64, nI_toInt (by omega)]
theorem x_drawG (a : Int32) (X : hMem) : ∃ X', fX8_drawGusts a X = some X' ∧ (∀ q, q ≠ 45 → q ≠ 46 → X' q = X q) ∧ ∀ t, t < 24 → X' 45 t = gW (a + 1).toInt64 t ∧ X' 46 t = gT (a + 1).toInt64 t := by
  unfold fX8_drawGusts
  generalize (a + 1).toInt64 = s
  refine lp_u0 (body := fX8_drawGusts_L8) 24 (fun i z => ∃ Y : hMem, z = (lotS s i, nI i, Y) ∧ (∀ q, q ≠ 45 → q ≠ 46 → Y q = X q) ∧ ∀ t, t < i → Y 45 t = gW s t ∧ Y 46 t = gT s t) _ (s, 0, X) ⟨X, rfl, fun _ _ _ => rfl, fun t h => absurd h (Nat.not_lt_zero _)⟩ (by omega) ?_ ?_
  · rintro k z ⟨Y, rfl, h1, h2⟩
    unfold fX8_drawGusts_L8
    dsimp only
    rw [if_pos (show (24 : Int32) ≤ nI 24 from by decide)]
    exact ⟨_, rfl, h1, h2⟩
  · rintro k i z hi ⟨Y, rfl, h1, h2⟩ hk
    unfold fX8_drawGusts_L8
    dsimp only
    rw [if_neg (show ¬ (24 : Int32) ≤ nI i from nI_ge (b := 24) hi (by decide)), if_pos (ib_mk hi (by omega)), if_pos (ib_mk hi (by omega)), nI_clamp (by omega), nI_1, ← lotS_s]
    refine hk _ ⟨_, rfl, fun q q1 q2 => by rw [m_row q2, m_row q1]; exact h1 q q1 q2, fun t ht => ?_⟩
    rw [m_row (k := 46) (a := 45) (by omega), m_own, m_own, m_row (by omega)]
    by_cases e : t = i
    · subst e; rw [u_s, u_s]; exact ⟨rfl, rfl⟩
    · rw [u_n e, u_n e]; exact h2 t (by omega)
theorem m_blows (a : Int32) (M : hMem) : ∃ M', fX10_blowsBy a M = some M' ∧ (∀ q, q ≠ 2 → q ≠ 3 → q ≠ 24 → q ≠ 25 → M' q = M q) ∧ (∀ t, t < 24 → M' 2 t = gW (a.toInt64 + 1) t ∧ M' 3 t = gT (a.toInt64 + 1) t ∧ M' 24 t = M 2 t ∧ M' 25 t = M 3 t) ∧ ∀ t, 24 ≤ t → M' 2 t = M 2 t ∧ M' 3 t = M 3 t := by
  unfold fX10_blowsBy
  generalize a.toInt64 + 1 = s
  refine lp_u0 (body := fX10_blowsBy_L8) 24 (fun i z => ∃ Y : hMem, z = (lotS s i, nI i, Y) ∧ (∀ q, q ≠ 2 → q ≠ 3 → q ≠ 24 → q ≠ 25 → Y q = M q) ∧ (∀ t, t < i → Y 2 t = gW s t ∧ Y 3 t = gT s t ∧ Y 24 t = M 2 t ∧ Y 25 t = M 3 t) ∧ ∀ t, i ≤ t → Y 2 t = M 2 t ∧ Y 3 t = M 3 t) _ (s, 0, M) ⟨M, rfl, fun _ _ _ _ _ => rfl, fun t h => absurd h (Nat.not_lt_zero _), fun _ _ => ⟨rfl, rfl⟩⟩ (by omega) ?_ ?_
  · rintro k z ⟨Y, rfl, h1, h2, h3⟩
    unfold fX10_blowsBy_L8
    dsimp only
    rw [if_pos (show (24 : Int32) ≤ nI 24 from by decide)]
    exact ⟨_, rfl, h1, h2, h3⟩
  · rintro k i z hi ⟨Y, rfl, h1, h2, h3⟩ hk
    unfold fX10_blowsBy_L8 fX10_blowsBy_L66
    dsimp only
    rw [if_neg (show ¬ (24 : Int32) ≤ nI i from nI_ge (b := 24) hi (by decide))]
    simp only [if_pos (show h_ib (nI i) 24 from ib_mk hi (by omega)), nI_clamp (show i < 2 ^ 31 by omega), nI_1, ← lotS_s]
    simp (disch := omega) only [m_row]
    refine hk _ ⟨_, rfl, fun q q1 q2 q3 q4 => by simp (disch := omega) only [m_row]; exact h1 q q1 q2 q3 q4, fun t ht => ?_, fun t ht => ?_⟩
    · simp (disch := omega) only [m_row, m_own]
      by_cases e : t = i
      · subst e; simp only [u_s]; exact ⟨rfl, rfl, (h3 t (Nat.le_refl _)).1, (h3 t (Nat.le_refl _)).2⟩
      · simp (disch := omega) only [u_n]; exact h2 t (by omega)
    · simp (disch := omega) only [m_row, m_own, u_n]
      exact h3 t (by omega)
theorem m_lays (M : hMem) : ∃ M', fX10_laysGusts M = some M' ∧ (∀ q, q ≠ 2 → q ≠ 3 → M' q = M q) ∧ (∀ t, t < 24 → M' 2 t = M 24 t ∧ M' 3 t = M 25 t) ∧ ∀ t, 24 ≤ t → M' 2 t = M 2 t ∧ M' 3 t = M 3 t := by
  unfold fX10_laysGusts
  refine lp_u0 (body := fX10_laysGusts_L2) 24 (fun i z => ∃ Y : hMem, z = (nI i, Y) ∧ (∀ q, q ≠ 2 → q ≠ 3 → Y q = M q) ∧ (∀ t, t < i → Y 2 t = M 24 t ∧ Y 3 t = M 25 t) ∧ ∀ t, i ≤ t → Y 2 t = M 2 t ∧ Y 3 t = M 3 t) _ (0, M) ⟨M, rfl, fun _ _ _ => rfl, fun t h => absurd h (Nat.not_lt_zero _), fun _ _ => ⟨rfl, rfl⟩⟩ (by omega) ?_ ?_
  · rintro k z ⟨Y, rfl, h1, h2, h3⟩
    unfold fX10_laysGusts_L2
    dsimp only
    rw [if_pos (show (24 : Int32) ≤ nI 24 from by decide)]
    exact ⟨_, rfl, h1, h2, h3⟩
  · rintro k i z hi ⟨Y, rfl, h1, h2, h3⟩ hk
    unfold fX10_laysGusts_L2
    dsimp only
    rw [if_neg (show ¬ (24 : Int32) ≤ nI i from nI_ge (b := 24) hi (by decide))]
    simp only [if_pos (show h_ib (nI i) 24 from ib_mk hi (by omega)), nI_clamp (show i < 2 ^ 31 by omega), nI_1]
    simp (disch := omega) only [m_row]
    refine hk _ ⟨_, rfl, fun q q1 q2 => by simp (disch := omega) only [m_row]; exact h1 q q1 q2, fun t ht => ?_, fun t ht => ?_⟩
    · simp (disch := omega) only [m_row, m_own]
      by_cases e : t = i
      · subst e; simp only [u_s]; rw [h1 24 (by omega) (by omega), h1 25 (by omega) (by omega)]; exact ⟨rfl, rfl⟩
      · simp (disch := omega) only [u_n]; exact h2 t (by omega)
    · simp (disch := omega) only [m_row, m_own, u_n]
      exact h3 t (by omega)
def wD (w : hWd) (f g : Nat → Int32) : hWd := (w.1, f, g, w.2.2.2)
theorem wD_ok {w : hWd} (h : okW w) {f g : Nat → Int32} (hf : ∀ t, h_ib (f t) 5) : okW (wD w f g) := ⟨fun t _ => hf t, h.2⟩
theorem MX.draw {w : hWd} {T : Nat} {X X' : hMem} (h : MX w T X) {f g : Nat → Int32} (hr : ∀ q, q ≠ 45 → q ≠ 46 → X' q = X q) (hg : ∀ t, t < 24 → X' 45 t = f t ∧ X' 46 t = g t) : MX (wD w f g) T X' := by
  obtain ⟨h1, h2, h3, h4, h5, h6, h7, h8, h9, h10⟩ := h
  refine ⟨?_, ?_, ?_, ?_, ?_, hg, h7, ?_, ?_, ?_⟩
  · rw [hr 40 (by omega) (by omega)]; exact h1
  · rw [hr 40 (by omega) (by omega)]; exact h2
  · rw [hr 40 (by omega) (by omega)]; exact h3
  · rw [hr 40 (by omega) (by omega)]; exact h4
  · rw [hr 40 (by omega) (by omega)]; exact h5
  · rw [hr 40 (by omega) (by omega)]; exact h8
  · rw [hr _ (by omega) (by omega), hr _ (by omega) (by omega)]; exact h9
  · rw [hr _ (by omega) (by omega), hr _ (by omega) (by omega)]; exact h10
theorem MM.draw {w : hWd} {h : Nat} {c e : Nat → Int32} {M M' : hMem} (m : MM w h c e M) {f g : Nat → Int32} (hr : ∀ q, q ≠ 2 → q ≠ 3 → q ≠ 24 → q ≠ 25 → M' q = M q) (hg : ∀ t, t < 24 → M' 2 t = f t ∧ M' 3 t = g t) : MM (wD w f g) h c e M' := by
  obtain ⟨h1, h2, h3, h4, h5, ⟨r, h6, h7, h8⟩, h9⟩ := m
  refine ⟨h1, ?_, hg, ?_, ?_, ⟨r, h6, ?_, ?_⟩, h9⟩
  · rw [hr 1 (by omega) (by omega) (by omega) (by omega)]; exact h2
  · rw [hr 4 (by omega) (by omega) (by omega) (by omega)]; exact h4
  · rw [hr 5 (by omega) (by omega) (by omega) (by omega)]; exact h5
  · rw [hr 0 (by omega) (by omega) (by omega) (by omega)]; exact h7
  · rw [hr 10 (by omega) (by omega) (by omega) (by omega), hr 11 (by omega) (by omega) (by omega) (by omega)]; exact h8
def kB (M M' : hMem) : Prop := (∀ a, (1 ≤ a ∧ a < 18) ∨ 25 < a → M' a = M a) ∧ ∀ j, j ≠ 36 → j ≠ 37 → M' 0 j = M 0 j
theorem kB.rf (M : hMem) : kB M M := ⟨fun _ _ => rfl, fun _ _ _ => rfl⟩
theorem kB.tr {X Y Z : hMem} (h : kB X Y) (g : kB Y Z) : kB X Z := ⟨fun a h1 => (g.1 a h1).trans (h.1 a h1), fun j h1 h2 => (g.2 j h1 h2).trans (h.2 j h1 h2)⟩
theorem kB.keep {M M' : hMem} (k : kB M M') : keepM M M' := by
  refine ⟨fun a ha => ?_, fun j hj => ?_⟩
  · unfold kM at ha; exact k.1 a (by omega)
  · unfold kM0 at hj; exact k.2 j (by omega) (by omega)
theorem MM.kB {w : hWd} {h : Nat} {c e : Nat → Int32} {M M' : hMem} (m : MM w h c e M) (k : kB M M') : MM w h c e M' := m.ext (fun a h1 h2 => k.1 a (by omega)) (k.2 15 (by omega) (by omega))
theorem back_Q {M M1 M2 M3 : hMem} (b1 : ∀ q, q ≠ 2 → q ≠ 3 → q ≠ 24 → q ≠ 25 → M1 q = M q) (b2 : ∀ t, t < 24 → M1 24 t = M 2 t ∧ M1 25 t = M 3 t) (b3 : ∀ t, 24 ≤ t → M1 2 t = M 2 t ∧ M1 3 t = M 3 t) (k : (∀ a, (1 ≤ a ∧ a < 18) ∨ 23 < a → M2 a = M1 a) ∧ ∀ j, j ≠ 36 → j ≠ 37 → M2 0 j = M1 0 j) (l1 : ∀ q, q ≠ 2 → q ≠ 3 → M3 q = M2 q) (l2 : ∀ t, t < 24 → M3 2 t = M2 24 t ∧ M3 3 t = M2 25 t) (l3 : ∀ t, 24 ≤ t → M3 2 t = M2 2 t ∧ M3 3 t = M2 3 t) : kB M M3 := by
  refine ⟨fun a ha => ?_, fun j j1 j2 => ?_⟩
  · by_cases e2 : a = 2
    · subst e2
      funext t
      by_cases ht : t < 24
      · rw [(l2 t ht).1, k.1 24 (by omega), (b2 t ht).1]
      · rw [(l3 t (by omega)).1, k.1 2 (by omega), (b3 t (by omega)).1]
    · by_cases e3 : a = 3
      · subst e3
        funext t
        by_cases ht : t < 24
        · rw [(l2 t ht).2, k.1 25 (by omega), (b2 t ht).2]
        · rw [(l3 t (by omega)).2, k.1 3 (by omega), (b3 t (by omega)).2]
      · rw [l1 a e2 e3, k.1 a (by omega), b1 a e2 e3 (by omega) (by omega)]
  · rw [l1 0 (by omega) (by omega), k.2 j j1 j2, b1 0 (by omega) (by omega) (by omega) (by omega)]
theorem eq_drawn {X M : hMem} (R : RR X M) (a b c : Int32) : EqC (fX9_drawn a b c X) (fX10_drawn a b c M) := by
  obtain ⟨H, hH, hx, hm⟩ := R.hats
  unfold fX9_drawn fX10_drawn
  rw [xe_hat hx (by omega), me_hat hm (by omega), xe_seed, xe_beh, me_sec, show fX10_in a 0 99999 M = if h_ib a 100000 then 1 else 0 from me_in a 99999 M (by decide)]
  simp only [b01]
  by_cases hb : h_ib b H
  rotate_left
  · simp only [if_neg hb]; exact EqC.now R
  by_cases ha : h_ib a 100000
  rotate_left
  · simp only [if_pos hb, if_neg ha]; exact EqC.now R
  by_cases hc : h_ib c 25
  rotate_left
  · simp only [if_pos hb, if_pos ha, if_neg hc]; exact EqC.now R
  simp only [if_pos hb, if_pos ha, if_pos hc]
  obtain ⟨j, hj, hj2, rfl⟩ := ib_ex ha
  obtain ⟨h, hh, hh2, rfl⟩ := ib_ex hb
  obtain ⟨n, hn, hn2, rfl⟩ := ib_ex hc
  obtain ⟨r, q, l, X1, r1, q1, l1, ok, mm, q2, l2, x1, x2, x3, x4, -, -⟩ := R.ctx hH hh
  obtain ⟨s1, s2⟩ := seed1 (j := j) (by omega)
  obtain ⟨X2, d1, d2, d3⟩ := x_drawG (nI j) X1
  rw [s1] at d3
  obtain ⟨M2, b1, b2, b3, b4⟩ := m_blows (nI j) M
  have hgW := gW_b s2 (by omega)
  generalize gW ((nI j).toInt64 + 1) = f at *
  generalize gT ((nI j).toInt64 + 1) = g at *
  have okd := wD_ok (g := g) ok hgW
  have mxd := x2.draw d2 d3
  have mmd := mm.draw b2 (fun t ht => ⟨(b3 t ht).1, (b3 t ht).2.1⟩)
  obtain ⟨X3, y1, y2⟩ := x_later okd mxd (a := 0) (b := n) (s := (q, l)) (by omega) (by omega) q1 l1
  obtain ⟨M3, z1, z2, -, -⟩ := m_behind okd mmd (n := n) (by omega) q1 l1 (by rw [b2 6 (by omega) (by omega) (by omega) (by omega)]; exact q2) (by rw [b2 7 (by omega) (by omega) (by omega) (by omega)]; exact l2)
  have hld : hldM M2 = noH := funext fun j => hldM_0 (by rw [b2 0 (by omega) (by omega) (by omega) (by omega)]; exact R.hold) j
  rw [hld] at z1
  have hL := runS_lt (hl := noH) (w := wD (wOf X M h r) f g) (a := 0) (s := (q, l)) q1 l1 n
  rw [Nat.sub_zero] at y1
  obtain ⟨M4, l1', l2', l3', l4'⟩ := m_lays M3
  rw [x1, Option.bind_some, d1, Option.bind_some, d2 40 (by omega) (by omega), x3, show fX8_later (nI (stN (q, l))) 0 (nI n) X2 = _ from y1, Option.bind_some, b1, Option.bind_some, z1, Option.bind_some]
  dsimp only
  rw [l1', Option.bind_some, x_sqS hL.1 hL.2]
  refine EqC.now (R.keep (kO.X (fun a h1 h2 => ?_)) (kB.keep (back_Q b2 (fun t ht => ⟨(b3 t ht).2.2.1, (b3 t ht).2.2.2⟩) b4 ⟨fun a ha => z2.1 a (by omega) (by omega) (by omega), z2.2⟩ l2' l3' l4')))
  rw [y2 a (by omega) h2, d2 a (by omega) (by omega), x4 a h1]
end
section
/-! ODDS -/
def EqL (fx fm : Option (Int64 × hMem)) : Prop := ∃ (v : Int64) (X' M' : hMem), fx = some (v, X') ∧ fm = some (v, M') ∧ RR X' M'
theorem EqL.now {v : Int64} {X' M' : hMem} (h : RR X' M') : EqL (some (v, X')) (some (v, M')) := ⟨v, X', M', rfl, rfl, h⟩
theorem l_cnt {c : Nat} (hc : c < 2 ^ 20) : (nI c).toInt64 + 1 = (nI (c + 1)).toInt64 := by
  rw [← (seed1 (j := c) (by omega)).1, nI_1]
theorem eq_odds {X M : hMem} (R : RR X M) (a b c d : Int32) : EqL (fX9_odds a b c d X) (fX10_odds a b c d M) := by
  obtain ⟨H, hH, hx, hm⟩ := R.hats
  obtain ⟨C, hC, cx, cm⟩ := R.cats
  unfold fX9_odds fX10_odds fX10_odds_L54
  rw [show ∀ t, fX10_odds_L55 a b c d t M = if t = 0 then some (-4611686018427387904, M) else h_lp (fX10_odds_L72 a b c d) h_FU (0, 0, M) from fun t => rfl, show ∀ t, fX10_odds_L55 a b c d t M = if t = 0 then some (-4611686018427387904, M) else h_lp (fX10_odds_L72 a b c d) h_FU (0, 0, M) from fun t => rfl, if_pos rfl, if_neg (show ¬ (1 : Int32) = 0 from by decide)]
  generalize (-4611686018427387904 : Int64) = bad
  rw [xe_seed, xe_01, xe_hat hx (by omega), xe_cat cx (by omega), there_m hm cm (by omega) (by omega), me_in1, show fX10_in a 0 99999 M = if h_ib a 100000 then 1 else 0 from me_in a 99999 M (by decide), show fX10_in b 1 30 M = if b < 1 then 0 else if 30 < b then 0 else 1 from rfl]
  simp only [b01]
  by_cases ha : h_ib a 100000
  rotate_left
  · simp only [if_neg ha]; exact EqL.now R
  simp only [if_pos ha]
  by_cases b1 : b < 1
  · simp only [if_pos b1, if_true]; exact EqL.now R
  simp only [if_neg b1]
  by_cases b2 : 30 < b
  · simp only [if_pos b2, if_true]; exact EqL.now R
  simp only [if_neg b2, if_neg (show ¬ (1 : Int32) = 0 from by decide)]
  by_cases c0 : c < 0
  · simp only [if_pos c0]
    by_cases hd : h_ib d 2
    · simp only [if_pos hd]; exact EqL.now R
    · simp only [if_neg hd]; exact EqL.now R
  simp only [if_neg c0]
  by_cases hc1 : h_ib (c / 10) H
  rotate_left
  · simp only [if_neg hc1, if_true]
    by_cases hd : h_ib d 2
    · simp only [if_pos hd]; exact EqL.now R
    · simp only [if_neg hd]; exact EqL.now R
  simp only [if_pos hc1]
  by_cases hc2 : h_ib (h_rem c 10) C
  rotate_left
  · simp only [if_neg hc2, if_true]
    by_cases hd : h_ib d 2
    · simp only [if_pos hd]; exact EqL.now R
    · simp only [if_neg hd]; exact EqL.now R
  simp only [if_pos hc2, if_neg (show ¬ (1 : Int32) = 0 from by decide)]
  by_cases hd : h_ib d 2
  rotate_left
  · simp only [if_neg hd]; exact EqL.now R
  simp only [if_pos hd]
  obtain ⟨j, hj, hj2, rfl⟩ := ib_ex ha
  obtain ⟨h, hh, hh2, eh⟩ := ib_ex hc1
  obtain ⟨p, hp, hp2, ep⟩ := ib_ex hc2
  obtain ⟨u, hu, hu2, rfl⟩ := ib_ex hd
  obtain ⟨n, hn, rfl⟩ : ∃ n, n < 30 ∧ b = nI (n + 1) := by
    have a1 : ¬ b.toInt < 1 := fun h => b1 (by rw [Int32.lt_iff_toInt_lt]; exact h)
    have a2 : ¬ 30 < b.toInt := fun h => b2 (by rw [Int32.lt_iff_toInt_lt]; exact h)
    refine ⟨b.toInt.toNat - 1, by omega, ?_⟩
    apply Int32.toInt_inj.mp
    rw [nI_toInt (by omega)]; omega
  obtain ⟨r, q, l, X1, r1, q1, l1, ok, mm, q2, l2, x1, x2, x3, x4, -, -⟩ := R.ctx hH hh
  obtain ⟨c0', pa, re, c1, pp1, e1, m0, m1, m2, y0, y1, y2⟩ := R.cctx (p := p) (by omega)
  have hp4 : p < 4 := by omega
  rw [eh, x1, Option.bind_some]
  generalize wOf X M h r = w at *
  have fin : ∃ (r : Int64 × hMem) (r' : Int64 × hMem), h_lp (fX9_odds_L74 (nI j) (nI (n + 1)) c (nI u)) h_FU (0, 0, X1) = some r ∧ h_lp (fX10_odds_L72 (nI j) (nI (n + 1)) c (nI u)) h_FU (0, 0, M) = some r' ∧ r.1 = r'.1 ∧ RR r.2 r'.2 := by
    refine lp20 (n + 1) (fun i z z' => ∃ (k : Nat) (Y N : hMem) (f g : Nat → Int32), z = (nI k, nI i, Y) ∧ z' = ((nI k).toInt64, nI i, N) ∧ k ≤ i ∧ kO X Y ∧ Y 40 5 = nI (stN (q, l)) ∧ MX (wD w f g) r Y ∧ kB M N) (fun (r r' : Int64 × hMem) => r.1 = r'.1 ∧ RR r.2 r'.2) _ _ ⟨0, X1, M, w.2.1, w.2.2.1, rfl, rfl, Nat.le_refl _, fun a h1 _ => x4 a h1, x3, x2, kB.rf M⟩ (by omega) ?_ ?_
    · rintro k k' z z' ⟨v, Y, N, f, g, rfl, rfl, hv, oY, h5, mY, kN⟩
      unfold fX9_odds_L74 fX10_odds_L72
      dsimp only
      rw [if_pos (nI_le (Nat.le_refl _) (by omega)), if_pos (nI_le (Nat.le_refl _) (by omega))]
      obtain ⟨o, o1, o2⟩ := lo_eq (c := v) (n := n) (b := u) (by omega) (by omega) hu
      have hx' : ((fX9_commonDivisor (nI v) (nI (n + 1)) Y).bind fun q125 => if nI u = 0 then (if q125 = 0 then none else some ((nI v / q125).toInt64, Y)) else (if q125 = 0 then none else some ((nI (n + 1) / q125).toInt64, Y))) = some (o, Y) := by
        have ec : fX9_commonDivisor (nI v) (nI (n + 1)) Y = fX9_commonDivisor (nI v) (nI (n + 1)) hM0 := rfl
        rw [ec]
        unfold loX at o1
        revert o1
        cases fX9_commonDivisor (nI v) (nI (n + 1)) hM0 with
        | none => intro o1; cases o1
        | some dd =>
          simp only [Option.bind_some]
          by_cases cu : nI u = 0
          · simp only [if_pos cu]
            by_cases cd : dd = 0
            · simp only [if_pos cd]; intro o1; cases o1
            · simp only [if_neg cd]; intro o1; cases o1; rfl
          · simp only [if_neg cu]
            by_cases cd : dd = 0
            · simp only [if_pos cd]; intro o1; cases o1
            · simp only [if_neg cd]; intro o1; cases o1; rfl
      have hm' : fX10_lowest (nI v).toInt64 (nI (n + 1)).toInt64 (nI u) N = some o := o2
      rw [hx', hm', Option.bind_some]
      exact ⟨_, _, rfl, rfl, rfl, R.keep oY.X kN.keep⟩
    · rintro k k' i z z' hi ⟨v, Y, N, f, g, rfl, rfl, hv, oY, h5, mY, kN⟩ hk
      unfold fX9_odds_L74 fX10_odds_L72
      dsimp only
      rw [if_neg (nI_ge hi (by omega)), if_neg (nI_ge hi (by omega)), nI_add]
      obtain ⟨s1, s2⟩ := seed1 (j := j + i) (by omega)
      obtain ⟨Y2, d1, d2, d3⟩ := x_drawG (nI (j + i)) Y
      rw [s1] at d3
      obtain ⟨M2, b1, b2, b3, b4⟩ := m_blows (nI (j + i)) N
      have hgW := gW_b s2 (by omega)
      generalize gW ((nI (j + i)).toInt64 + 1) = f' at *
      generalize gT ((nI (j + i)).toInt64 + 1) = g' at *
      have okd := wD_ok (g := g') ok hgW
      have mxd : MX (wD w f' g') r Y2 := mY.draw d2 d3
      have mmd := (mm.kB kN).draw b2 (fun t ht => ⟨(b3 t ht).1, (b3 t ht).2.1⟩)
      have br : ∀ a, (a = 0 ∨ a = 6 ∨ a = 7 ∨ a = 8) → M2 a = N a := fun a ha => b2 a (by omega) (by omega) (by omega) (by omega)
      obtain ⟨o', X3, N3, g1, g2, g3, g4, g5, g6⟩ := had_w okd mxd (by rw [d2 40 (by omega) (by omega)]; exact h5) q1 l1 mmd (by rw [br 0 (by omega), kN.2 39 (by omega) (by omega)]; exact R.hold) (by rw [br 6 (by omega), kN.1 6 (by omega)]; exact q2) (by rw [br 7 (by omega), kN.1 7 (by omega)]; exact l2) hp4 c1 pp1 e1 (by rw [d2 _ (by omega) (by omega), oY _ (by omega) (by omega)]; exact y0) (by rw [d2 _ (by omega) (by omega), oY _ (by omega) (by omega)]; exact y1) (by rw [d2 _ (by omega) (by omega), oY _ (by omega) (by omega)]; exact y2) (by rw [br 8 (by omega), kN.1 8 (by omega)]; exact m0) (by rw [br 8 (by omega), kN.1 8 (by omega)]; exact m1) (by rw [br 8 (by omega), kN.1 8 (by omega)]; exact m2)
      obtain ⟨M4, l1', l2', l3', l4'⟩ := m_lays N3
      rw [d1, Option.bind_some, ep, if_pos (ib_mk hp4 (by omega)), nI_clamp hp2, g1, Option.bind_some, b1, Option.bind_some, eh, g2, Option.bind_some]
      dsimp only
      rw [ans_m1 g3, l1', Option.bind_some, nI_1, nI_1, l_cnt (by omega), Int64.add_zero]
      have oY' : kO X X3 := oY.tr (fun a h1 h2 => by rw [g4 a (by omega) h2, d2 a (by omega) (by omega)])
      have h5' : X3 40 5 = nI (stN (q, l)) := by rw [g6, d2 40 (by omega) (by omega)]; exact h5
      have mX3 := mxd.kP g4
      have kN' : kB M M4 := kN.tr (back_Q b2 (fun t ht => ⟨(b3 t ht).2.2.1, (b3 t ht).2.2.2⟩) b4 ⟨fun a ha => g5.1 a ha, g5.2⟩ l2' l3' l4')
      cases o' with
      | none =>
        rw [if_pos (show ansI none < 0 from by decide), if_pos rfl]
        exact hk _ _ ⟨v, X3, M4, f', g', rfl, rfl, by omega, oY', h5', mX3, kN'⟩
      | some t =>
        rw [if_neg (show ¬ ansI (some t) < 0 from nI_pos (by have := g3 t rfl; omega)), if_neg (fun q => (by cases q))]
        exact hk _ _ ⟨v + 1, X3, M4, f', g', rfl, rfl, by omega, oY', h5', mX3, kN'⟩
  obtain ⟨z, z', f1, f2, f3, f4⟩ := fin
  exact ⟨z'.1, z.2, z'.2, by rw [f1, ← f3], f2, f4⟩
end
section
/-! ORDER: the list of all orders -/
def lastL (nx : Nat → Nat → Nat → Option Nat) (ps : Nat → Nat → Nat) : List Nat → Nat → Nat → Option Nat
  | [], _, t => some t
  | i :: r, c, t => match nx i c t with | none => none | some n => lastL nx ps r (ps i n) n
def updB (B : Int32 × Option Nat) (o : Int32) (v : Option Nat) : Int32 × Option Nat := if soon v B.2 = true then (o, v) else B
def ordL : List Nat → Nat → Nat
  | [], o => o
  | i :: r, o => ordL r (10 * o + i + 1)
def prm (H : Nat) : Nat → Nat → List (List Nat)
  | 0, _ => [[]]
  | k + 1, m => (List.range H).flatMap (fun i => if m.testBit i = true then [] else (prm H k (m ||| 2 ^ i)).map (fun r => i :: r))
theorem prm_s (H k m : Nat) : prm H (k + 1) m = (List.range H).flatMap (fun i => if m.testBit i = true then [] else (prm H k (m ||| 2 ^ i)).map (fun r => i :: r)) := rfl
def cnt (H m : Nat) : Nat := ((List.range H).filter (fun i => !m.testBit i)).length
def stpB (nx : Nat → Nat → Nat → Option Nat) (ps : Nat → Nat → Nat) (o c t : Nat) (B : Int32 × Option Nat) (r : List Nat) : Int32 × Option Nat := updB B (nI (ordL r o)) (lastL nx ps r c t)
theorem fold_none {nx : Nat → Nat → Nat → Option Nat} {ps : Nat → Nat → Nat} {o c t i : Nat} (h : nx i c t = none) : ∀ (L : List (List Nat)) (B : Int32 × Option Nat), (L.map (fun r => i :: r)).foldl (stpB nx ps o c t) B = B
  | [], _ => rfl
  | r :: L, B => by
    rw [List.map_cons, List.foldl_cons, fold_none h L]
    unfold stpB updB
    have : lastL nx ps (i :: r) c t = none := by
      show (match nx i c t with | none => none | some n => lastL nx ps r (ps i n) n) = none
      rw [h]
    rw [this]
    exact if_neg (by show ¬ false = true; decide)
theorem fold_some {nx : Nat → Nat → Nat → Option Nat} {ps : Nat → Nat → Nat} {o c t i n : Nat} (h : nx i c t = some n) : ∀ (L : List (List Nat)) (B : Int32 × Option Nat), (L.map (fun r => i :: r)).foldl (stpB nx ps o c t) B = L.foldl (stpB nx ps (10 * o + i + 1) (ps i n) n) B
  | [], _ => rfl
  | r :: L, B => by
    rw [List.map_cons, List.foldl_cons, List.foldl_cons, fold_some h L]
    have : stpB nx ps o c t B (i :: r) = stpB nx ps (10 * o + i + 1) (ps i n) n B r := by
      unfold stpB
      have h2 : lastL nx ps (i :: r) c t = lastL nx ps r (ps i n) n := by
        show (match nx i c t with | none => none | some n => lastL nx ps r (ps i n) n) = _
        rw [h]
      rw [h2]
      rfl
    rw [this]
def okN (H : Nat) : Nat → Nat → Nat → Bool
  | 0, _, N => N == 0
  | k + 1, s, N => Nat.ble 1 (N % 10) && (Nat.ble (N % 10) H && (!s.testBit (N % 10) && okN H k (s ||| 2 ^ (N % 10)) (N / 10)))
theorem okN_s (H k s N : Nat) : okN H (k + 1) s N = (Nat.ble 1 (N % 10) && (Nat.ble (N % 10) H && (!s.testBit (N % 10) && okN H k (s ||| 2 ^ (N % 10)) (N / 10)))) := rfl
def digs (N : Nat) : Nat → List Nat
  | 0 => []
  | k + 1 => ((N / 10 ^ k) % 10 - 1) :: digs N k
theorem ord_all : ((List.range 5).all fun H => Nat.beq H 0 || (decide ((prm H H 0).map (fun r => ordL r 0) = (List.range 5000).filter (okN H H 0)) && (prm H H 0).all (fun r => decide (digs (ordL r 0) H = r)))) = true := by decide +kernel
theorem cnt_all : ((List.range 5).all fun H => (List.range 16).all fun m => !Nat.blt m (2 ^ H) || (decide ((cnt H m = 0) ↔ m = 2 ^ H - 1) && (List.range H).all (fun i => m.testBit i || (Nat.beq (cnt H (m ||| 2 ^ i) + 1) (cnt H m) && Nat.blt (m ||| 2 ^ i) (2 ^ H))))) = true := by decide +kernel
theorem msk_all : ((List.range 16).all fun m => (List.range 4).all fun i => decide ((h_ushr (nI m) (nI i)) &&& 1 = if m.testBit i = true then 1 else 0) && decide (nI m ||| (1 <<< (nI i &&& 31)) = nI (m ||| 2 ^ i))) = true := by decide +kernel
theorem full_all : ((List.range 5).all fun H => decide ((1 : Int32) <<< (nI H &&& 31) - 1 = nI (2 ^ H - 1))) = true := by decide +kernel
end
section
/-! ORDER, x's side -/
theorem think_row {X X1 : hMem} {a : Int32} (h : fX9_think a X = some X1) : ∀ q, q ≠ 40 → q ≠ 45 → q ≠ 46 → X1 q = X q := by
  unfold fX9_think fX8_suppose fX8_suppose_L68 at h
  intro q h0 h1 h2
  by_cases c1 : h_ib a 4
  · rw [if_pos c1] at h
    by_cases c2 : h_ib (X 1 7) 6
    · rw [if_pos c2] at h
      by_cases c3 : h_isB hYx (7 + a.toNatClampNeg) 2 0 = true
      · rw [if_pos c3] at h
        by_cases c4 : h_isB hYx (56 + 4 * (X 1 7).toNatClampNeg) 3 0 = true
        · rw [if_pos c4, if_pos (show h_cpb 0 0 24 24 24 = true by decide), if_pos (show h_cpb 0 0 24 24 24 = true by decide), Option.bind_some] at h
          cases h
          simp (disch := omega) only [m_row, m_cpr]
        · rw [if_neg c4] at h; cases h
      · rw [if_neg c3] at h; cases h
    · rw [if_neg c2] at h; cases h
  · rw [if_neg c1] at h; cases h
def FX (X : hMem) (H pa re : Nat) (Y : hMem) (B : Int32 × Option Nat) : Prop := (∀ a, a ≠ 49 → Y a = X a) ∧ Y 49 3 = nI H ∧ Y 49 4 = nI pa ∧ Y 49 5 = nI re ∧ Y 49 1 = B.1 ∧ Y 49 2 = ansI B.2 ∧ okO B.2
theorem msk_bit {m i : Nat} (hm : m < 16) (hi : i < 4) : (h_ushr (nI m) (nI i)) &&& 1 = (if m.testBit i = true then 1 else 0) ∧ nI m ||| (1 <<< (nI i &&& 31)) = nI (m ||| 2 ^ i) := by
  have h := Bool.and_eq_true_iff.mp (dc2 (N := 16) (K := 4) (p := fun m i => decide ((h_ushr (nI m) (nI i)) &&& 1 = if m.testBit i = true then 1 else 0) && decide (nI m ||| (1 <<< (nI i &&& 31)) = nI (m ||| 2 ^ i))) msk_all hm hi)
  exact ⟨of_decide_eq_true h.1, of_decide_eq_true h.2⟩
theorem cnt_ok {H m : Nat} (hH : H ≤ 4) (hm : m < 2 ^ H) : (cnt H m = 0 ↔ m = 2 ^ H - 1) ∧ ∀ i, i < H → m.testBit i = false → cnt H (m ||| 2 ^ i) + 1 = cnt H m ∧ m ||| 2 ^ i < 2 ^ H := by
  have h16 : 2 ^ H ≤ 16 := by
    rcases (by omega : H = 0 ∨ H = 1 ∨ H = 2 ∨ H = 3 ∨ H = 4) with rfl | rfl | rfl | rfl | rfl <;> decide
  have h := dc2 (N := 5) (K := 16) (p := fun H m => !Nat.blt m (2 ^ H) || (decide ((cnt H m = 0) ↔ m = 2 ^ H - 1) && (List.range H).all (fun i => m.testBit i || (Nat.beq (cnt H (m ||| 2 ^ i) + 1) (cnt H m) && Nat.blt (m ||| 2 ^ i) (2 ^ H))))) cnt_all (show H < 5 by omega) (show m < 16 by omega)
  have hb : Nat.blt m (2 ^ H) = true := Nat.ble_eq_true_of_le hm
  rw [hb, Bool.not_true, Bool.false_or, Bool.and_eq_true_iff] at h
  refine ⟨of_decide_eq_true h.1, fun i hi ht => ?_⟩
  have h2 := h_forall (p := fun i => m.testBit i || (Nat.beq (cnt H (m ||| 2 ^ i) + 1) (cnt H m) && Nat.blt (m ||| 2 ^ i) (2 ^ H))) h.2 hi
  rw [ht, Bool.false_or, Bool.and_eq_true_iff] at h2
  exact ⟨Nat.eq_of_beq_eq_true h2.1, Nat.le_of_ble_eq_true h2.2⟩
theorem full_ok {H : Nat} (hH : H ≤ 4) : (1 : Int32) <<< (nI H &&& 31) - 1 = nI (2 ^ H - 1) :=
  of_decide_eq_true (h_forall (N := 5) (p := fun H => decide ((1 : Int32) <<< (nI H &&& 31) - 1 = nI (2 ^ H - 1))) full_all (show H < 5 by omega))
theorem x_fetch {X : hMem} {W : Int32} {H pa re : Nat} {P : Nat → Nat → Nat × Nat} (hH : H ≤ 4) (hW : 0 < H → X 40 0 = W) (hP : ∀ i, i < H → ∀ n, n ≤ 24 → X (51 + i) n = nI (stN (P i n)) ∧ (P i n).1 < 32 ∧ (P i n).2 < 3) (hpa : pa ≤ 4) (hre : re ≤ 3) : ∀ (k d m o c t : Nat) (Y : hMem) (B : Int32 × Option Nat), k < d → cnt H m = k → m < 2 ^ H → c < 32 → t ≤ 24 → FX X H pa re Y B → ∃ Y', fRR_fetch d 0 (nI m) (nI o) (nI c) (nI t) Y = some Y' ∧ FX X H pa re Y' ((prm H k m).foldl (stpB (fun i c t => hadS W c t pa re (fun n => (P i n).1)) (fun i n => (P i n).1) o c t) B) := by
  have h16 : 2 ^ H ≤ 16 := by
    rcases (by omega : H = 0 ∨ H = 1 ∨ H = 2 ∨ H = 3 ∨ H = 4) with rfl | rfl | rfl | rfl | rfl <;> decide
  intro k
  induction k with
  | zero =>
    intro d m o c t Y B hd hc hm hcc ht hF
    obtain ⟨f1, f2, f3, f4, f5, f6, f7⟩ := hF
    obtain ⟨d, rfl⟩ : ∃ d', d = d' + 1 := ⟨d - 1, by omega⟩
    show ∃ Y', fX1_fetch (fRR_fetch d) (nI m) (nI o) (nI c) (nI t) Y = some Y' ∧ _
    have em := ((cnt_ok hH hm).1).mp hc
    unfold fX1_fetch
    rw [f2, full_ok hH, if_pos (by rw [em]), f6, show nI t = ansI (some t) from rfl, x_sooner (fun n hn => by cases hn; omega) f7, b01]
    show ∃ Y', _ ∧ FX X H pa re Y' (stpB _ _ o c t B [])
    unfold stpB updB
    show ∃ Y', _ ∧ FX X H pa re Y' (if soon (some t) B.2 = true then (nI o, some t) else B)
    by_cases hs : soon (some t) B.2 = true
    · rw [if_pos hs, if_pos hs]
      refine ⟨_, rfl, fun a ha => ?_, ?_, ?_, ?_, ?_, ?_, fun n hn => by cases hn; omega⟩
      · rw [m_row ha, m_row ha]; exact f1 a ha
      · simp (disch := omega) only [m_own, u_n]; exact f2
      · simp (disch := omega) only [m_own, u_n]; exact f3
      · simp (disch := omega) only [m_own, u_n]; exact f4
      · simp (disch := omega) only [m_own, u_n, u_s]
      · simp (disch := omega) only [m_own, u_s]
    · rw [if_neg hs, if_neg hs]
      exact ⟨Y, rfl, f1, f2, f3, f4, f5, f6, f7⟩
  | succ k ih =>
    intro d m o c t Y B hd hc hm hcc ht hF
    obtain ⟨d, rfl⟩ : ∃ d', d = d' + 1 := ⟨d - 1, by omega⟩
    show ∃ Y', fX1_fetch (fRR_fetch d) (nI m) (nI o) (nI c) (nI t) Y = some Y' ∧ _
    have em : ¬ m = 2 ^ H - 1 := fun e => by have := ((cnt_ok hH hm).1).mpr e; omega
    unfold fX1_fetch
    rw [hF.2.1, full_ok hH, if_neg (nI_neq _ (by omega) (by omega) em), prm_s]
    generalize hnx : (fun i c t => hadS W c t pa re (fun n => (P i n).1) : Nat → Nat → Nat → Option Nat) = nx at ih ⊢
    generalize hps : (fun i n => (P i n).1 : Nat → Nat → Nat) = ps at ih ⊢
    refine lp_u0 (body := fX1_fetch_L39 (fRR_fetch d) (nI m) (nI o) (nI c) (nI t)) H (fun i z => ∃ Z : hMem, z = (nI i, Z) ∧ FX X H pa re Z (((List.range i).flatMap (fun i => if m.testBit i = true then [] else (prm H k (m ||| 2 ^ i)).map (fun r => i :: r))).foldl (stpB nx ps o c t) B)) _ (0, Y) ⟨Y, rfl, hF⟩ (by omega) ?_ ?_
    · rintro q z ⟨Z, rfl, hZ⟩
      unfold fX1_fetch_L39
      dsimp only
      simp only [hZ.2.1]
      rw [if_pos (nI_le (Nat.le_refl _) (by omega))]
      exact ⟨_, rfl, hZ⟩
    · rintro q i z hi ⟨Z, rfl, hZ⟩ hq
      have hrange : ∀ B', B' = ((if m.testBit i = true then [] else (prm H k (m ||| 2 ^ i)).map (fun r => i :: r)).foldl (stpB nx ps o c t) (((List.range i).flatMap (fun i => if m.testBit i = true then [] else (prm H k (m ||| 2 ^ i)).map (fun r => i :: r))).foldl (stpB nx ps o c t) B)) → B' = ((List.range (i + 1)).flatMap (fun i => if m.testBit i = true then [] else (prm H k (m ||| 2 ^ i)).map (fun r => i :: r))).foldl (stpB nx ps o c t) B := by
        intro B' h
        rw [h, List.range_succ, List.flatMap_append, List.foldl_append, List.flatMap_singleton]
      generalize ((List.range i).flatMap (fun i => if m.testBit i = true then [] else (prm H k (m ||| 2 ^ i)).map (fun r => i :: r))).foldl (stpB nx ps o c t) B = Bi at hZ hrange
      obtain ⟨f1, f2, f3, f4, f5, f6, f7⟩ := hZ
      obtain ⟨mb1, mb2⟩ := msk_bit (m := m) (i := i) (by omega) (by omega)
      unfold fX1_fetch_L39
      dsimp only
      simp only [f2, f3, f4, mb1, mb2, b01, nI_clamp (show i < 2 ^ 31 by omega), show Z (51 + i) = X (51 + i) from f1 _ (by omega)]
      rw [if_neg (nI_ge hi (by omega)), nI_1]
      by_cases tb : m.testBit i = true
      · rw [if_pos tb]
        refine hq _ ⟨Z, rfl, ?_⟩
        rw [← hrange Bi (by rw [if_pos tb]; rfl)]
        exact ⟨f1, f2, f3, f4, f5, f6, f7⟩
      · rw [if_neg tb, if_pos (ib_mk (by omega) (by omega))]
        have hh := x_had (X := Z) (W := W) (a := 51 + i) (s := P i) (by rw [f1 40 (by omega)]; exact hW (by omega)) (Or.inr ⟨by omega, by omega⟩) (fun n hn => by rw [f1 _ (by omega)]; exact hP i hi n hn) hcc (m := t) (by omega) hpa hre
        have hl := fun n hn => hadS_lt (W := W) (c0 := c) (m := t) (pace := pa) (reach := re) (sq := fun n => (P i n).1) (n := n) hn (by omega)
        have ho := hadS_ok (W := W) (c0 := c) (m := t) (pace := pa) (reach := re) (sq := fun n => (P i n).1) (by omega)
        have enx : nx i c t = hadS W c t pa re (fun n => (P i n).1) := by rw [← hnx]
        rw [hh, Option.bind_some, ← enx]
        rw [← enx] at hl ho
        cases hn : nx i c t with
        | none =>
          rw [if_pos (show ansI none < 0 from by decide)]
          refine hq _ ⟨Z, rfl, ?_⟩
          rw [← hrange Bi (by rw [if_neg tb, fold_none hn])]
          exact ⟨f1, f2, f3, f4, f5, f6, f7⟩
        | some n =>
          obtain ⟨n1, n2⟩ := hl n hn
          obtain ⟨p1, p2, p3⟩ := hP i hi n n2
          rw [if_neg (show ¬ ansI (some n) < 0 from nI_pos (by omega)), if_pos (ib_mk (by omega) (by omega)), show ansI (some n) = nI n from rfl, if_pos (ib_mk (by omega) (by omega)), nI_clamp (by omega), p1, x_sqS p2 p3, show (10 : Int32) * nI o + nI i + 1 = nI (10 * o + i + 1) from by rw [show (10 : Int32) = nI 10 from rfl, pk_mul, nI_add, nI_1]]
          obtain ⟨c1, c2⟩ := (cnt_ok hH hm).2 i hi (eq_false_of_ne_true tb)
          obtain ⟨Z', z1, z2⟩ := ih d (m ||| 2 ^ i) (10 * o + i + 1) (P i n).1 n Z Bi (by omega) (by omega) c2 p2 n2 ⟨f1, f2, f3, f4, f5, f6, f7⟩
          rw [z1, Option.bind_some]
          refine hq _ ⟨Z', rfl, ?_⟩
          rw [← hrange _ (by rw [if_neg tb, fold_some hn])]
          have : ps i n = (P i n).1 := by rw [← hps]
          rw [this]
          exact z2
end
section
/-! ORDER, the other side -/
theorem m_isIn {H : Nat} (hH : H ≤ 4) (h0 : 0 < H) (N : Nat) (hN : N < 5000) (M : hMem) : fX10_isInOrder (nI N) (nI H) M = some (if okN H H 0 N = true then 1 else 0) := by
  unfold fX10_isInOrder
  obtain ⟨r, r1, r2⟩ := lp_u0 (body := fX10_isInOrder_L7 (nI H) M) H (fun i z => ∃ s K : Nat, z = (nI s, nI K, nI i) ∧ K < 5000 ∧ s < 32 ∧ okN H (H - i) s K = okN H H 0 N) (fun r => r = if okN H H 0 N = true then 1 else 0) (0, nI N, 0) ⟨0, N, rfl, hN, by omega, rfl⟩ (by omega) (by
    rintro k z ⟨s, K, rfl, hK, hs, he⟩
    unfold fX10_isInOrder_L7
    dsimp only
    rw [if_pos (nI_le (Nat.le_refl _) (by omega))]
    rw [Nat.sub_self] at he
    by_cases c : K = 0
    · subst c
      refine ⟨1, by rw [if_pos (show nI 0 = (0 : Int32) from rfl)], ?_⟩
      rw [← he]; rfl
    · refine ⟨0, by rw [if_neg (show ¬ nI K = (0 : Int32) from nI_neq 0 (by omega) (by omega) c)], ?_⟩
      rw [← he, if_neg]
      intro h
      exact c (eq_of_beq h)) (by
    rintro k i z hi ⟨s, K, rfl, hK, hs, he⟩ hk
    have er : h_rem (nI K) 10 = nI (K % 10) := n_rem (d := 10) (by omega) (by decide) (by decide)
    have ed : nI K / 10 = nI (K / 10) := pk_div (d := 10) (by omega) (by decide) (by decide)
    have hd : K % 10 < 10 := Nat.mod_lt _ (by decide)
    rw [show H - i = (H - (i + 1)) + 1 from by omega, okN_s] at he
    unfold fX10_isInOrder_L7
    dsimp only
    rw [if_neg (nI_ge hi (by omega)), er, ed]
    unfold fX10_in
    by_cases c1 : 1 ≤ K % 10
    · by_cases c2 : K % 10 ≤ H
      · rw [if_neg (show ¬ nI (K % 10) < (1 : Int32) from nI_nlt (b := 1) c1 (by omega)), if_neg (nI_nlt c2 (by omega)), if_neg (show ¬ (1 : Int32) = 0 from by decide)]
        rw [Nat.ble_eq_true_of_le c1, Nat.ble_eq_true_of_le c2, Bool.true_and, Bool.true_and] at he
        have hm := dc2 (N := 32) (K := 5) (p := fun s d => decide (((nI s >>> (nI d &&& 31)) &&& 1) = if s.testBit d = true then 1 else 0) && (decide (nI s ||| (1 <<< (nI d &&& 31)) = nI (s ||| 2 ^ d)) && Nat.blt (s ||| 2 ^ d) 32)) (by decide +kernel) hs (show K % 10 < 5 by omega)
        obtain ⟨hm1, hm2⟩ := Bool.and_eq_true_iff.mp hm
        obtain ⟨hm2, hm3⟩ := Bool.and_eq_true_iff.mp hm2
        rw [of_decide_eq_true hm1, bit_1]
        by_cases tb : s.testBit (K % 10) = true
        · rw [if_pos tb]
          rw [tb] at he
          refine ⟨0, rfl, ?_⟩
          rw [← he]; rfl
        · rw [if_neg tb, of_decide_eq_true hm2, nI_1]
          rw [eq_false_of_ne_true tb] at he
          exact hk _ ⟨_, _, rfl, by omega, Nat.le_of_ble_eq_true hm3, he⟩
      · rw [if_neg (show ¬ nI (K % 10) < (1 : Int32) from nI_nlt (b := 1) c1 (by omega)), if_pos (nI_lt (by omega) (by omega)), if_pos rfl]
        rw [show Nat.ble (K % 10) H = false from Bool.eq_false_iff.mpr (fun h => c2 (Nat.le_of_ble_eq_true h)), Bool.false_and, Bool.and_false] at he
        refine ⟨0, rfl, ?_⟩
        rw [← he]; rfl
    · rw [if_pos (show nI (K % 10) < (1 : Int32) from nI_lt (b := 1) (by omega) (by omega)), if_pos rfl]
      rw [show Nat.ble 1 (K % 10) = false from Bool.eq_false_iff.mpr (fun h => c1 (Nat.le_of_ble_eq_true h)), Bool.false_and] at he
      refine ⟨0, rfl, ?_⟩
      rw [← he]; rfl)
  rw [r1, r2]
theorem m_last {H pa re p N : Nat} {M : hMem} {W : Int32} {P : Nat → Nat → Nat × Nat} (hp : p < 4) (hH : H ≤ 4) (m1 : M 8 (3 * p + 1) = nI pa) (m2 : M 8 (3 * p + 2) = nI re) (hN : N < 5000) (hhad : ∀ i c0 t (Z : hMem), i < H → c0 < 32 → t ≤ 24 → kQ M Z → ∃ Z', fX10_had (nI i) (nI c0) (nI t) (nI pa) (nI re) Z = some (ansI (hadS W c0 t pa re (fun n => (P i n).1)), Z') ∧ kQ Z Z' ∧ ∀ n, hadS W c0 t pa re (fun n => (P i n).1) = some n → Z' 0 36 = nI (P i n).1 ∧ (P i n).1 < 32 ∧ n ≤ 24) : ∀ (k c t fuel : Nat) (Z : hMem), k < fuel → k ≤ 4 → c < 32 → t ≤ 24 → kQ M Z → (∀ j, j < k → 1 ≤ (N / 10 ^ j) % 10 ∧ (N / 10 ^ j) % 10 ≤ H) → ∃ Z', h_lp (fX10_lastBy_L59 (nI p) (nI N)) fuel (nI c, nI t, nI (if k = 0 then 0 else 10 ^ (k - 1)), Z) = some (ansI (lastL (fun i c t => hadS W c t pa re (fun n => (P i n).1)) (fun i n => (P i n).1) (digs N k) c t), Z') ∧ kQ M Z' := by
  intro k
  induction k with
  | zero =>
    intro c t fuel Z hf _ hc ht kZ _
    obtain ⟨f, rfl⟩ : ∃ f, fuel = f + 1 := ⟨fuel - 1, by omega⟩
    rw [lp_s]
    unfold fX10_lastBy_L59
    dsimp only
    rw [if_pos rfl, if_pos (show nI 0 ≤ (0 : Int32) from by decide)]
    exact ⟨Z, rfl, kZ⟩
  | succ k ih =>
    intro c t fuel Z hf hk4 hc ht kZ hd
    obtain ⟨f, rfl⟩ : ∃ f, fuel = f + 1 := ⟨fuel - 1, by omega⟩
    have hpw : 0 < 10 ^ k ∧ 10 ^ k < 2 ^ 31 := by
      rcases (by omega : k = 0 ∨ k = 1 ∨ k = 2 ∨ k = 3) with rfl | rfl | rfl | rfl <;> decide
    rw [lp_s, if_neg (show ¬ k + 1 = 0 by omega), Nat.add_sub_cancel]
    have e10 : nI (10 ^ k) / 10 = nI (if k = 0 then 0 else 10 ^ (k - 1)) := by
      rcases (by omega : k = 0 ∨ k = 1 ∨ k = 2 ∨ k = 3) with rfl | rfl | rfl | rfl <;> decide
    generalize hgo : h_lp (fX10_lastBy_L59 (nI p) (nI N)) f = go
    have ih' := fun c t Z h1 h2 h3 h4 => ih c t f Z (by omega) (by omega) h1 h2 h3 h4
    rw [hgo] at ih'
    obtain ⟨d1, d2⟩ := hd k (by omega)
    have hdm : N / 10 ^ k < 2 ^ 31 := Nat.lt_of_le_of_lt (Nat.div_le_self _ _) (by omega)
    unfold fX10_lastBy_L59
    dsimp only
    rw [if_neg (show ¬ nI (10 ^ k) ≤ (0 : Int32) from nI_ge (a := 0) hpw.1 hpw.2), if_neg (n_m1 (by omega)), if_neg (show ¬ nI (10 ^ k) = (0 : Int32) from nI_neq 0 hpw.2 (by omega) (by omega)), show (3 : Int32) * nI p + 1 = nI (3 * p + 1) from by rw [c3a hp, nI_1], show (3 : Int32) * nI p + 2 = nI (3 * p + 2) from by rw [c3a hp]; exact nI_add _ 2, if_pos (ib_mk (by omega) (by omega)), if_pos (ib_mk (by omega) (by omega)), nI_clamp (by omega), nI_clamp (by omega), kZ.1 8 (by omega), m1, m2, pk_div (by omega) hpw.1 hpw.2, show h_rem (nI (N / 10 ^ k)) 10 = nI (N / 10 ^ k % 10) from n_rem (d := 10) hdm (by decide) (by decide), nI_sub1 d1]
    obtain ⟨Z', z1, z2, z3⟩ := hhad (N / 10 ^ k % 10 - 1) c t Z (by omega) hc ht kZ
    rw [z1, Option.bind_some, e10]
    dsimp only
    show ∃ Z'', go _ = some (ansI (match hadS W c t pa re (fun n => (P (N / 10 ^ k % 10 - 1) n).1) with | none => none | some n => lastL _ _ (digs N k) (P (N / 10 ^ k % 10 - 1) n).1 n), Z'') ∧ _
    generalize hadS W c t pa re (fun n => (P (N / 10 ^ k % 10 - 1) n).1) = o at z3 ⊢
    cases o with
    | none =>
      rw [← hgo]
      obtain ⟨f', rfl⟩ : ∃ f', f = f' + 1 := ⟨f - 1, by omega⟩
      rw [lp_s]
      unfold fX10_lastBy_L59
      dsimp only
      by_cases c0 : nI (if k = 0 then 0 else 10 ^ (k - 1)) ≤ 0
      · rw [if_pos c0]; exact ⟨Z', rfl, kZ.tr z2⟩
      · rw [if_neg c0, if_pos (show ansI none = -1 from rfl)]; exact ⟨Z', rfl, kZ.tr z2⟩
    | some n =>
      obtain ⟨p1, p2, p3⟩ := z3 n rfl
      rw [p1]
      exact ih' (P (N / 10 ^ k % 10 - 1) n).1 n Z' p2 p3 (kZ.tr z2) (fun j hj => hd j (by omega))
end
section
/-! ORDER, both -/
theorem okN_digs {H : Nat} : ∀ (k s N : Nat), okN H k s N = true → ∀ j, j < k → 1 ≤ (N / 10 ^ j) % 10 ∧ (N / 10 ^ j) % 10 ≤ H
  | 0, _, _, _, j, h => absurd h (Nat.not_lt_zero _)
  | k + 1, s, N, h, j, hj => by
    rw [okN_s, Bool.and_eq_true_iff, Bool.and_eq_true_iff, Bool.and_eq_true_iff] at h
    cases j with
    | zero => rw [Nat.pow_zero, Nat.div_one]; exact ⟨Nat.le_of_ble_eq_true h.1, Nat.le_of_ble_eq_true h.2.1⟩
    | succ j =>
      have := okN_digs k _ (N / 10) h.2.2.2 j (by omega)
      rw [Nat.div_div_eq_div_mul, ← Nat.pow_succ'] at this
      exact this
theorem fold_c {α β : Type} {f g : β → α → β} : ∀ (L : List α) (B : β), (∀ r, r ∈ L → ∀ B, f B r = g B r) → L.foldl f B = L.foldl g B
  | [], _, _ => rfl
  | r :: L, B, h => by
    rw [List.foldl_cons, List.foldl_cons, h r (List.mem_cons_self ..), fold_c L _ (fun r hr => h r (List.mem_cons_of_mem _ hr))]
theorem ord_ok {H : Nat} (hH : H ≤ 4) (h0 : 0 < H) : (prm H H 0).map (fun r => ordL r 0) = (List.range 5000).filter (okN H H 0) ∧ ∀ r, r ∈ prm H H 0 → digs (ordL r 0) H = r := by
  have h := h_forall (N := 5) (p := fun H => Nat.beq H 0 || (decide ((prm H H 0).map (fun r => ordL r 0) = (List.range 5000).filter (okN H H 0)) && (prm H H 0).all (fun r => decide (digs (ordL r 0) H = r)))) ord_all (show H < 5 by omega)
  rw [show Nat.beq H 0 = false from Bool.eq_false_iff.mpr (fun h => by have := Nat.eq_of_beq_eq_true h; omega), Bool.false_or, Bool.and_eq_true_iff] at h
  exact ⟨of_decide_eq_true h.1, fun r hr => of_decide_eq_true (List.all_eq_true.mp h.2 r hr)⟩
def hS (M : hMem) (j : Nat) : Nat × Nat := ((M 6 j).toNatClampNeg, (M 7 j).toNatClampNeg)
theorem RR.hS {X M : hMem} (R : RR X M) {j : Nat} (hj : j < 4) : (hS M j).1 < 32 ∧ (hS M j).2 < 3 ∧ M 6 j = nI (hS M j).1 ∧ M 7 j = nI (hS M j).2 := by
  obtain ⟨-, -, -, -, -, i6, i7⟩ := R.hatE hj
  exact ⟨i6.2, i7.2, n_of_ib i6, n_of_ib i7⟩
def oP (X M : hMem) (r i n : Nat) : Nat × Nat := runS noH (wOf X M i r) 0 n (hS M i)
theorem x_order {X M : hMem} (R : RR X M) {H p r c0 pa re : Nat} {b : Int32} (hH : H ≤ 4) (hx : X 1 5 = nI H) (hp : p < 4) (r1 : r < 6) (m15 : M 0 15 = nI r) (c1 : c0 < 32) (pp1 : pa ≤ 4) (e1 : re ≤ 3) (y0 : X (11 + p) 0 = nI c0) (y1 : X (11 + p) 1 = nI pa) (y2 : X (11 + p) 2 = nI re) : ∃ (z : Int32 × hMem) (B : Int32 × Option Nat), h_lp (fX9_order_L23 (nI p) b) h_FU (0, X) = some z ∧ (z.1 = (if b = 0 then B.1 else ansI B.2) ∧ keepX X z.2) ∧ B = (prm H H 0).foldl (stpB (fun i c t => hadS (M 1 0) c t pa re (fun n => (oP X M r i n).1)) (fun i n => (oP X M r i n).1) 0 c0 0) (-1, none) := by
  generalize hB : (prm H H 0).foldl (stpB (fun i c t => hadS (M 1 0) c t pa re (fun n => (oP X M r i n).1)) (fun i n => (oP X M r i n).1) 0 c0 0) (-1, none) = B
  refine Exists.elim (lp_u0 (body := fX9_order_L23 (nI p) b) H (fun i z => ∃ Y : hMem, z = (nI i, Y) ∧ kO X Y ∧ (0 < i → Y 40 0 = M 1 0) ∧ ∀ j, j < i → ∀ n, n ≤ 24 → Y (51 + j) n = nI (stN (oP X M r j n))) (fun z => z.1 = (if b = 0 then B.1 else ansI B.2) ∧ keepX X z.2) (0, X) ⟨X, rfl, fun _ _ _ => rfl, fun h => absurd h (Nat.not_lt_zero _), fun j h => absurd h (Nat.not_lt_zero _)⟩ (by omega) ?_ ?_) ?_
  · rintro k z ⟨Y, rfl, oY, hW, hY⟩
    unfold fX9_order_L23 fX1_plan fX1_plan_L31
    dsimp only
    simp only [show Y 1 5 = nI H from by rw [oY 1 (by omega) (by omega), hx], nI_clamp (show p < 2 ^ 31 by omega)]
    rw [if_pos (nI_le (Nat.le_refl _) (by omega)), if_pos (ib_mk hp (by omega)), if_pos ((img_isB 1 (Or.inl rfl)).2 p hp).2]
    have ey1 : Y (11 + p) = X (11 + p) := oY _ (by omega) (by omega)
    simp (disch := omega) only [m_row, ey1, y0, y1, y2]
    have hF : FX Y H pa re (h_up (h_up (h_up (h_up (h_up Y 49 1 (-1)) 49 2 (-1)) 49 3 (nI H)) 49 4 (nI pa)) 49 5 (nI re)) (-1, none) := by
      refine ⟨fun a ha => ?_, ?_, ?_, ?_, ?_, ?_, fun n hn => by cases hn⟩
      · simp (disch := omega) only [m_row]
      · simp (disch := omega) only [m_own, u_n, u_s]
      · simp (disch := omega) only [m_own, u_n, u_s]
      · simp (disch := omega) only [m_own, u_s]
      · simp (disch := omega) only [m_own, u_n, u_s]
      · simp (disch := omega) only [m_own, u_n, u_s]; rfl
    have hcnt : cnt H 0 = H := by
      rcases (by omega : H = 0 ∨ H = 1 ∨ H = 2 ∨ H = 3 ∨ H = 4) with rfl | rfl | rfl | rfl | rfl <;> decide
    obtain ⟨Z, z1, z2⟩ := x_fetch (X := Y) (W := M 1 0) (H := H) (pa := pa) (re := re) (P := oP X M r) hH hW (fun i hi n hn => ⟨hY i hi n hn, runS_lt (R.hS (j := i) (by omega)).1 (R.hS (j := i) (by omega)).2.1 n⟩) pp1 e1 H 6 0 0 c0 0 _ _ (by omega) hcnt (Nat.two_pow_pos H) c1 (by omega) hF
    rw [hB] at z2
    unfold gX1_fetch
    rw [show fRR_fetch 6 0 0 0 (nI c0) 0 _ = some Z from z1, Option.bind_some, Option.bind_some]
    obtain ⟨g1, -, -, -, g5, g6, -⟩ := z2
    have kx : keepX X Z := by
      refine ⟨fun a ha => ?_, ?_⟩
      · unfold kX at ha; rw [g1 a (by omega)]; exact oY a (by omega) (by omega)
      · rw [g1 30 (by omega), oY 30 (by omega) (by omega)]
    by_cases hb : b = 0
    · rw [if_pos hb, if_pos hb]; exact ⟨_, rfl, g5, kx⟩
    · rw [if_neg hb, if_neg hb]; exact ⟨_, rfl, g6, kx⟩
  · rintro k i z hi ⟨Y, rfl, oY, hW, hY⟩ hk
    unfold fX9_order_L23
    dsimp only
    simp only [show Y 1 5 = nI H from by rw [oY 1 (by omega) (by omega), hx]]
    rw [if_neg (nI_ge hi (by omega))]
    have R' := R.keep oY.X (keepM.rf M)
    obtain ⟨r', q, l, X1, r1', q1, l1, ok, mm, q2, l2, x1, x2, x3, x4, m15', -⟩ := R'.ctx hH hi
    have er : r' = r := ((nI_eq (by omega) (by omega)).mp (m15'.symm.trans m15))
    subst er
    obtain ⟨t1, t2, t3, t4⟩ := R.hS (j := i) (by omega)
    have eq : q = (hS M i).1 := (nI_eq (by omega) (by omega)).mp (q2.symm.trans t3)
    have el : l = (hS M i).2 := (nI_eq (by omega) (by omega)).mp (l2.symm.trans t4)
    have eql : (q, l) = hS M i := by rw [eq, el]
    have ew : wOf Y M i r' = wOf X M i r' := by
      unfold wOf
      rw [oY _ (by omega) (by omega), oY _ (by omega) (by omega)]
    obtain ⟨X2, f1, f2, f3⟩ := x_follow ok x2 (a := 51 + i) (Or.inr ⟨by omega, by omega⟩) x3 q1 l1
    have tr := think_row x1
    rw [x1, Option.bind_some, if_pos (ib_mk (by omega) (by omega)), nI_clamp (by omega), f1, Option.bind_some, nI_1]
    refine hk _ ⟨X2, rfl, fun a h1 h2 => ?_, fun _ => ?_, fun j hj n hn => ?_⟩
    · rw [f2 a (by omega) (by omega) h2, x4 a h1]; exact oY a h1 h2
    · rw [f2 40 (by omega) (by omega) (by omega)]; exact x2.1
    · by_cases e : j = i
      · subst e
        rw [f3 n hn, ew, eql]; rfl
      · rw [f2 (51 + j) (by omega) (by omega) (by omega), tr _ (by omega) (by omega) (by omega)]
        exact hY j (by omega) n hn
  · rintro z ⟨z1, z2⟩
    exact ⟨z, B, z1, z2, rfl⟩
theorem m_lastBy {p N H : Nat} {Z : hMem} (hp : p < 4) (h1 : 1 ≤ H) (h4 : H ≤ 4) (h3 : Z 0 3 = nI H) : fX10_lastBy (nI p) (nI N) Z = h_lp (fX10_lastBy_L59 (nI p) (nI N)) h_FU (Z 8 (3 * p), 0, nI (if H = 0 then 0 else 10 ^ (H - 1)), Z) := by
  unfold fX10_lastBy
  rw [h3, show (3 : Int32) * nI p = nI (3 * p) from pk_mul 3 p, if_pos (ib_mk (by omega) (by omega)), nI_clamp (by omega)]
  rcases (by omega : H = 1 ∨ H = 2 ∨ H = 3 ∨ H = 4) with rfl | rfl | rfl | rfl
  · rw [if_pos (show nI 1 ≤ (3 : Int32) by decide), if_pos (show nI 1 ≤ (2 : Int32) by decide), if_pos (show nI 1 ≤ (1 : Int32) by decide)]; rfl
  · rw [if_pos (show nI 2 ≤ (3 : Int32) by decide), if_pos (show nI 2 ≤ (2 : Int32) by decide), if_neg (show ¬ nI 2 ≤ (1 : Int32) by decide)]; rfl
  · rw [if_pos (show nI 3 ≤ (3 : Int32) by decide), if_neg (show ¬ nI 3 ≤ (2 : Int32) by decide)]; rfl
  · rw [if_neg (show ¬ nI 4 ≤ (3 : Int32) by decide)]; rfl
theorem eq_order {X M : hMem} (R : RR X M) (a b : Int32) : EqC (fX9_order a b X) (fX10_order a b M) := by
  obtain ⟨H, hH, hx, hm⟩ := R.hats
  obtain ⟨C, hC, cx, cm⟩ := R.cats
  unfold fX9_order fX10_order
  rw [xe_cat cx (by omega), me_cat cm (by omega), b01, b01, xe_01, me_in1, b01, b01, hm]
  by_cases ha : h_ib a C
  rotate_left
  · rw [if_neg ha, if_neg ha]; exact EqC.now R
  rw [if_pos ha, if_pos ha]
  by_cases hb : h_ib b 2
  rotate_left
  · rw [if_neg hb, if_neg hb]; exact EqC.now R
  rw [if_pos hb, if_pos hb]
  obtain ⟨p, p1, p2, rfl⟩ := ib_ex ha
  obtain ⟨r, r1, -, m15, -⟩ := R.rule
  obtain ⟨c0, pa, re, c1, pp1, e1, m0, m1, m2, y0, y1, y2⟩ := R.cctx (p := p) (by omega)
  have hp4 : p < 4 := by omega
  obtain ⟨z, B, z1, ⟨z2, z3⟩, z4⟩ := x_order (b := b) R hH hx hp4 r1 m15 c1 pp1 e1 y0 y1 y2
  by_cases h0 : H = 0
  · subst h0
    have eB : B = (nI 0, some 0) := by rw [z4]; rfl
    rw [if_pos (show nI 0 = (0 : Int32) from rfl), z1]
    refine ⟨0, z.2, M, ?_, rfl, R.keep z3 (keepM.rf M)⟩
    have : z.1 = 0 := by
      rw [z2, eB]
      by_cases c : b = 0
      · rw [if_pos c]; rfl
      · rw [if_neg c]; rfl
    rw [← this]
  rw [if_neg (show ¬ nI H = (0 : Int32) from nI_neq 0 (by omega) (by omega) h0), z1]
  generalize hnx : (fun i c t => hadS (M 1 0) c t pa re (fun n => (oP X M r i n).1) : Nat → Nat → Nat → Option Nat) = nx at z4
  generalize hps : (fun i n => (oP X M r i n).1 : Nat → Nat → Nat) = ps at z4
  obtain ⟨o1, o2⟩ := ord_ok hH (by omega)
  have hml : ∃ r, h_lp (fX10_order_L40 (nI p) b) h_FU (-1, -1, 1, M) = some r ∧ (r.1 = (if b = 0 then B.1 else ansI B.2) ∧ kQ M r.2) := by
    refine lp_up (body := fX10_order_L40 (nI p) b) 5000 (fun n z => ∃ (N : hMem) (D : Int32 × Option Nat), z = (D.1, ansI D.2, nI n, N) ∧ kQ M N ∧ okO D.2 ∧ okB D.1 D.2 ∧ D = ((List.range n).filter (okN H H 0)).foldl (fun D n => updB D (nI n) (lastL nx ps (digs n H) c0 0)) (-1, none)) _ ?_ ?_ h_FU 1 _ (by omega) ⟨M, (-1, none), rfl, kQ.rf M, fun n hn => (by cases hn), Or.inl ⟨rfl, rfl⟩, ?_⟩ (by unfold h_FU; omega)
    · rintro k z ⟨N, D, rfl, kN, oD, bD, eD⟩
      unfold fX10_order_L40
      dsimp only
      rw [if_pos (show (5000 : Int32) ≤ nI 5000 from by decide)]
      have eDB : D = B := by
        rw [eD, z4, ← o1, List.foldl_map]
        refine fold_c _ _ (fun r hr D => ?_)
        rw [o2 r hr]
        rfl
      by_cases hb : b = 0
      · rw [if_pos hb, if_pos hb, eDB]; exact ⟨_, rfl, rfl, kN⟩
      · rw [if_neg hb, if_neg hb, eDB]; exact ⟨_, rfl, rfl, kN⟩
    · rintro k n z hn ⟨N, D, rfl, kN, oD, bD, eD⟩ hk
      unfold fX10_order_L40 fX10_order_L91 fX10_order_L87 fX10_order_L92 fX10_order_L105
      dsimp only
      rw [if_neg (show ¬ (5000 : Int32) ≤ nI n from nI_ge (b := 5000) hn (by decide)), show N 0 3 = nI H from by rw [kN.2 3 (by omega) (by omega)]; exact hm, m_isIn hH (by omega) n hn, Option.bind_some, b01, nI_1]
      by_cases okn : okN H H 0 n = true
      · rw [if_pos okn]
        have hL := m_last (H := H) (pa := pa) (re := re) (p := p) (N := n) (M := M) (W := M 1 0) (P := oP X M r) hp4 hH m1 m2 hn (fun i c0 t Z hi hc ht kZ => by
          obtain ⟨t1, t2, t3, t4⟩ := R.hS (j := i) (by omega)
          obtain ⟨r', q, l, X1, r1', q1, l1, ok, mm, q2, l2, x1, x2, x3, x4, m15', -⟩ := R.ctx hH hi
          have er : r' = r := ((nI_eq (by omega) (by omega)).mp (m15'.symm.trans m15))
          subst er
          obtain ⟨Z', g1, g2, g3⟩ := m_had ok (mm.kQ kZ) (by rw [kZ.2 39 (by omega) (by omega)]; exact R.hold) t1 t2 (by rw [kZ.1 6 (by omega)]; exact t3) (by rw [kZ.1 7 (by omega)]; exact t4) hc ht pp1 e1
          exact ⟨Z', g1, g2, fun n hn => ⟨(g3 n hn).1, (runS_lt t1 t2 n).1, (hadS_lt hn (by omega)).2⟩⟩) H c0 0 h_FU N (by unfold h_FU; omega) hH c1 (by omega) kN (okN_digs H 0 n okn)
        rw [hnx, hps] at hL
        obtain ⟨N', n1, n2⟩ := hL
        rw [m_lastBy hp4 (by omega) hH (by rw [kN.2 3 (by omega) (by omega)]; exact hm), kN.1 8 (by omega), m0, show h_lp (fX10_lastBy_L59 (nI p) (nI n)) h_FU (nI c0, 0, nI (if H = 0 then 0 else 10 ^ (H - 1)), N) = _ from n1, Option.bind_some]
        dsimp only
        have oo : okO (lastL nx ps (digs n H) c0 0) := by
          have key : ∀ (L : List Nat) (c t : Nat), t < 2 ^ 30 → okO (lastL nx ps L c t) := by
            intro L
            induction L with
            | nil => intro c t ht q hq; cases hq; exact ht
            | cons i L ih =>
              intro c t ht
              show okO (match nx i c t with | none => none | some n => lastL nx ps L (ps i n) n)
              cases hq : nx i c t with
              | none => intro q h; cases h
              | some q =>
                refine ih _ _ ?_
                rw [← hnx] at hq
                have := frst_lt hq
                by_cases ht2 : t ≤ 25
                · omega
                · omega
          exact key _ _ _ (by omega)
        have eF : ∀ D', D' = updB D (nI n) (lastL nx ps (digs n H) c0 0) → D' = ((List.range (n + 1)).filter (okN H H 0)).foldl (fun D n => updB D (nI n) (lastL nx ps (digs n H) c0 0)) (-1, none) := fun D' h => by
          rw [h, eD, List.range_succ, List.filter_append, List.foldl_append, List.filter_cons_of_pos okn]
          rfl
        generalize lastL nx ps (digs n H) c0 0 = o at oo eF ⊢
        rw [m_less oo oD bD]
        unfold updB at eF
        by_cases hs : soon o D.2 = true
        · rw [if_pos hs, if_neg (show ¬ (1 : Int32) = 0 from by decide), if_neg (show ¬ (1 : Int32) = 0 from by decide)]
          exact hk _ ⟨N', (nI n, o), rfl, n2, oo, okB_new (by omega) hs, eF _ (by rw [if_pos hs])⟩
        · rw [if_neg hs, if_pos rfl, if_pos rfl]
          exact hk _ ⟨N', D, rfl, n2, oD, bD, eF _ (by rw [if_neg hs])⟩
      · rw [if_neg okn]
        refine hk _ ⟨N, D, rfl, kN, oD, bD, ?_⟩
        rw [eD, List.range_succ, List.filter_append, List.foldl_append, List.filter_cons_of_neg okn]
        rfl
    · have : ((List.range 1).filter (okN H H 0)) = [] := by
        rcases (by omega : H = 1 ∨ H = 2 ∨ H = 3 ∨ H = 4) with rfl | rfl | rfl | rfl <;> rfl
      rw [this]; rfl
  obtain ⟨r', w1, w2, w3⟩ := hml
  refine ⟨r'.1, z.2, r'.2, by rw [w2, ← z2], by rw [w1], R.keep z3 w3.keep⟩
end
section
/-! TEXT: bytes and blanks -/
def bA (b : Nat → Int32) (n i : Nat) : Int32 := if i < n then b i else -1
def blk (v : Int32) : Bool := decide (v = 32) || decide (v = 10)
def dig (v : Int32) : Bool := !decide (v < 48) && !decide (57 < v)
def ltr (v : Int32) : Bool := !decide (v < 97) && !decide (122 < v)
/-- over the bytes of a class -/
def spn (c : Int32 → Bool) (b : Nat → Int32) (n : Nat) : Nat → Nat → Nat
  | 0, i => i
  | f + 1, i => if c (bA b n i) = true then spn c b n f (i + 1) else i
theorem spn_s (c : Int32 → Bool) (b : Nat → Int32) (n f i : Nat) : spn c b n (f + 1) i = if c (bA b n i) = true then spn c b n f (i + 1) else i := rfl
theorem spn_out {c : Int32 → Bool} (hc : c (-1) = false) {b : Nat → Int32} {n i : Nat} (h : n ≤ i) : ∀ f, spn c b n f i = i
  | 0 => rfl
  | f + 1 => by
    rw [spn_s, show bA b n i = -1 from if_neg (by omega), hc]
    exact if_neg (by decide)
theorem spn_f {c : Int32 → Bool} (hc : c (-1) = false) {b : Nat → Int32} {n : Nat} : ∀ (f i : Nat), n - i ≤ f → spn c b n f i = spn c b n (n - i) i
  | 0, i, h => by rw [show n - i = 0 from by omega]
  | f + 1, i, h => by
    by_cases hi : n ≤ i
    · rw [spn_out hc hi, spn_out hc hi]
    · rw [show n - i = (n - (i + 1)) + 1 from by omega, spn_s, spn_s, spn_f hc f (i + 1) (by omega)]
theorem spn_le {c : Int32 → Bool} (hc : c (-1) = false) {b : Nat → Int32} {n : Nat} : ∀ (f i : Nat), i ≤ n → i ≤ spn c b n f i ∧ spn c b n f i ≤ n
  | 0, i, h => ⟨Nat.le_refl _, h⟩
  | f + 1, i, h => by
    rw [spn_s]
    by_cases hi : n ≤ i
    · rw [show bA b n i = -1 from if_neg (by omega), hc, if_neg (by decide)]; exact ⟨Nat.le_refl _, h⟩
    · by_cases h2 : c (bA b n i) = true
      · rw [if_pos h2]
        have := spn_le hc f (i + 1) (b := b) (n := n) (by omega)
        omega
      · rw [if_neg h2]; exact ⟨Nat.le_refl _, h⟩
def TXx (b : Nat → Int32) (n : Nat) (X : hMem) : Prop := n ≤ 160 ∧ X 30 0 = nI n ∧ X 31 = b
theorem x_byte {b : Nat → Int32} {n : Nat} {X : hMem} (h : TXx b n X) {i : Nat} (hi : i < 2 ^ 31) : fX5_byteAt (nI i) X = some (bA b n i) := by
  obtain ⟨h1, h2, h3⟩ := h
  unfold fX5_byteAt bA
  rw [if_neg (nI_pos hi), h2, h3]
  by_cases c : i < n
  · rw [if_neg (nI_ge c (by omega)), if_pos (ib_mk (by omega) (by omega)), nI_clamp (by omega), if_pos c]
  · rw [if_pos (nI_le (by omega) hi), if_neg c]
theorem x_dig (v : Int32) (X : hMem) : fX5_isDigit v X = if dig v = true then 1 else 0 := by
  unfold fX5_isDigit dig
  by_cases c1 : v < 48
  · rw [if_pos c1, decide_eq_true c1]; rfl
  · rw [if_neg c1, decide_eq_false c1]
    by_cases c2 : 57 < v
    · rw [if_pos c2, decide_eq_true c2]; rfl
    · rw [if_neg c2, decide_eq_false c2]; rfl
theorem x_ltr (v : Int32) (X : hMem) : fX5_isLetter v X = if ltr v = true then 1 else 0 := by
  unfold fX5_isLetter ltr
  by_cases c1 : v < 97
  · rw [if_pos c1, decide_eq_true c1]; rfl
  · rw [if_neg c1, decide_eq_false c1]
    by_cases c2 : 122 < v
    · rw [if_pos c2, decide_eq_true c2]; rfl
    · rw [if_neg c2, decide_eq_false c2]; rfl
theorem m_dig (v : Int32) (M : hMem) : fX10_in v 48 57 M = if dig v = true then 1 else 0 := x_dig v M
theorem m_ltr (v : Int32) (M : hMem) : fX10_in v 97 122 M = if ltr v = true then 1 else 0 := x_ltr v M
theorem x_blanks {b : Nat → Int32} {n : Nat} {X : hMem} (h : TXx b n X) {i : Nat} (hi : i < 2 ^ 30) : fX5_behindBlanks (nI i) X = some (nI (spn blk b n 160 i)) := by
  unfold fX5_behindBlanks
  obtain ⟨r, r1, r2⟩ := lp_u0 (body := fX5_behindBlanks_L4 X) 160 (fun k z => (∃ p, p < i + 161 ∧ z = (nI p, nI k) ∧ p = i + k ∧ spn blk b n (160 - k) p = spn blk b n 160 i)) (fun r => r = nI (spn blk b n 160 i)) (nI i, 0) ⟨i, by omega, rfl, rfl, rfl⟩ (by omega) (by
    rintro k z ⟨p, hp, rfl, hp2, hs⟩
    unfold fX5_behindBlanks_L4
    dsimp only
    rw [if_pos (show (160 : Int32) ≤ nI 160 from by decide)]
    rw [Nat.sub_self] at hs
    exact ⟨_, rfl, by rw [← hs]; rfl⟩) (by
    rintro k j z hj ⟨p, hp, rfl, hp2, hs⟩ hk
    unfold fX5_behindBlanks_L4
    dsimp only
    rw [if_neg (show ¬ (160 : Int32) ≤ nI j from nI_ge (b := 160) hj (by decide)), x_byte h (by omega), Option.bind_some, Option.bind_some, nI_1, nI_1]
    rw [show 160 - j = (160 - (j + 1)) + 1 from by omega, spn_s] at hs
    unfold blk at hs
    by_cases c1 : bA b n p = 32
    · rw [if_pos c1]
      rw [decide_eq_true c1, Bool.true_or, if_pos rfl] at hs
      exact hk _ ⟨p + 1, by omega, rfl, by omega, hs⟩
    · rw [if_neg c1]
      rw [decide_eq_false c1, Bool.false_or] at hs
      by_cases c2 : bA b n p = 10
      · rw [if_pos c2]
        rw [decide_eq_true c2, if_pos rfl] at hs
        exact hk _ ⟨p + 1, by omega, rfl, by omega, hs⟩
      · rw [if_neg c2]
        rw [decide_eq_false c2, if_neg (by decide)] at hs
        exact ⟨_, rfl, by rw [hs]; rfl⟩)
  rw [r1, r2]
theorem x_span {b : Nat → Int32} {n : Nat} {X : hMem} (h : TXx b n X) {f : Int32} {c : Int32 → Bool} (hf : (f = 0 ∧ c = dig) ∨ (f = 1 ∧ c = ltr)) {i : Nat} (hi : i < 2 ^ 30) : h_lp (fX5_tokenEnd_L38 f X) h_FU (nI i, 0) = some (nI (spn c b n 160 i)) := by
  obtain ⟨r, r1, r2⟩ := lp_u0 (body := fX5_tokenEnd_L38 f X) 160 (fun k z => (∃ p, p < i + 161 ∧ z = (nI p, nI k) ∧ p = i + k ∧ spn c b n (160 - k) p = spn c b n 160 i)) (fun r => r = nI (spn c b n 160 i)) (nI i, 0) ⟨i, by omega, rfl, rfl, rfl⟩ (by omega) (by
    rintro k z ⟨p, hp, rfl, hp2, hs⟩
    unfold fX5_tokenEnd_L38
    dsimp only
    rw [if_pos (show (160 : Int32) ≤ nI 160 from by decide)]
    rw [Nat.sub_self] at hs
    exact ⟨_, rfl, by rw [← hs]; rfl⟩) (by
    rintro k j z hj ⟨p, hp, rfl, hp2, hs⟩ hk
    unfold fX5_tokenEnd_L38
    dsimp only
    rw [if_neg (show ¬ (160 : Int32) ≤ nI j from nI_ge (b := 160) hj (by decide)), x_byte h (by omega), Option.bind_some, Option.bind_some, nI_1, nI_1, x_dig, x_ltr, b01, b01]
    rw [show 160 - j = (160 - (j + 1)) + 1 from by omega, spn_s] at hs
    rcases hf with ⟨rfl, rfl⟩ | ⟨rfl, rfl⟩
    · rw [if_pos rfl]
      by_cases c1 : dig (bA b n p) = true
      · rw [if_pos c1]
        rw [if_pos c1] at hs
        exact hk _ ⟨p + 1, by omega, rfl, by omega, hs⟩
      · rw [if_neg c1]
        rw [if_neg c1] at hs
        exact ⟨_, rfl, by rw [hs]⟩
    · rw [if_neg (show ¬ (1 : Int32) = 0 from by decide)]
      by_cases c1 : ltr (bA b n p) = true
      · rw [if_pos c1]
        rw [if_pos c1] at hs
        exact hk _ ⟨p + 1, by omega, rfl, by omega, hs⟩
      · rw [if_neg c1]
        rw [if_neg c1] at hs
        exact ⟨_, rfl, by rw [hs]⟩)
  rw [r1, r2]
/-- where a token that begins at i ends -/
def tEnd (b : Nat → Int32) (n i : Nat) : Nat := if ltr (bA b n i) = true then spn ltr b n 160 (i + 1) else if dig (bA b n i) = true then spn dig b n 160 (i + 1) else min (i + 1) n
theorem bA_in {c : Int32 → Bool} (hc : c (-1) = false) {b : Nat → Int32} {n i : Nat} (h : c (bA b n i) = true) : i < n := by
  rcases Nat.lt_or_ge i n with h1 | h1
  · exact h1
  · rw [show bA b n i = -1 from if_neg (by omega), hc] at h; cases h
theorem x_tEnd {b : Nat → Int32} {n : Nat} {X : hMem} (h : TXx b n X) {i : Nat} (hi : i < 2 ^ 29) : fX5_tokenEnd (nI i) X = some (nI (tEnd b n i)) := by
  have hn := h.1
  unfold fX5_tokenEnd tEnd
  rw [x_byte h (by omega), Option.bind_some, Option.bind_some, x_ltr, x_dig, b01, b01, nI_1, h.2.1, fj_min _ _ (by omega) (by omega)]
  by_cases c1 : ltr (bA b n i) = true
  · have := bA_in (c := ltr) (by decide) c1
    rw [if_pos c1, if_pos c1, if_pos c1, x_span h (c := ltr) (Or.inr ⟨rfl, rfl⟩) (by omega), Nat.min_eq_left (by omega)]
  · rw [if_neg c1, if_neg c1]
    by_cases c2 : dig (bA b n i) = true
    · have := bA_in (c := dig) (by decide) c2
      rw [if_pos c2, if_pos c2, if_neg c1, x_span h (c := dig) (Or.inl ⟨rfl, rfl⟩) (by omega), Nat.min_eq_left (by omega)]
    · rw [if_neg c2, if_neg c1, if_neg c2]
end
section
/-! TEXT: words -/
def wLen (v : Nat) : Nat := h_lens.getD v 0
def mW (b : Nat → Int32) (n v a e : Nat) : Bool := decide (e - a = wLen v) && (List.range (wLen v)).all (fun j => decide (bA b n (a + j) = h_sch v j))
theorem wLen_b : ∀ v, v < 13 → wLen v ≤ 45 := fun v hv => of_decide_eq_true (h_forall (N := 13) (p := fun v => decide (wLen v ≤ 45)) (by decide +kernel) hv)
theorem x_isWord {b : Nat → Int32} {n : Nat} {X : hMem} (h : TXx b n X) {v a e : Nat} (hv : v < 13) (hae : a ≤ e) (he : e < 2 ^ 29) : fX5_isWord v (nI a) (nI e) X = some (if mW b n v a e = true then 1 else 0) := by
  have hl := wLen_b v hv
  unfold fX5_isWord
  rw [if_pos hv, pk_sub hae, show h_slen v = nI (wLen v) from rfl]
  by_cases hlen : e - a = wLen v
  · rw [if_pos (by rw [hlen])]
    have hW : mW b n v a e = (List.range (wLen v)).all (fun j => decide (bA b n (a + j) = h_sch v j)) := by
      unfold mW; rw [decide_eq_true hlen, Bool.true_and]
    rw [hW]
    obtain ⟨r, r1, r2⟩ := lp_u0 (body := fX5_isWord_L15 v (nI a) X) (wLen v) (fun i z => z = nI i ∧ ∀ j, j < i → bA b n (a + j) = h_sch v j) (fun r => r = if (List.range (wLen v)).all (fun j => decide (bA b n (a + j) = h_sch v j)) = true then 1 else 0) 0 ⟨rfl, fun j hj => absurd hj (Nat.not_lt_zero _)⟩ (by omega) (by
      rintro k z ⟨rfl, hall⟩
      unfold fX5_isWord_L15
      rw [if_pos hv, show h_slen v = nI (wLen v) from rfl, if_pos (nI_le (Nat.le_refl _) (by omega))]
      refine ⟨1, rfl, ?_⟩
      rw [if_pos (List.all_eq_true.mpr (fun j hj => decide_eq_true (hall j (List.mem_range.mp hj))))]) (by
      rintro k i z hi ⟨rfl, hall⟩ hk
      unfold fX5_isWord_L15
      rw [if_pos hv, show h_slen v = nI (wLen v) from rfl, if_neg (nI_ge hi (by omega)), nI_add, x_byte h (by omega), Option.bind_some, nI_clamp (by omega), nI_1]
      have hscb : h_scb v (nI i) = true := by
        unfold h_scb
        rw [nI_clamp (by omega), decide_eq_true hv, decide_eq_true (nI_pos' (by omega)), show Nat.blt i (h_lens.getD v 0) = true from Nat.ble_eq_true_of_le hi]
        rfl
      rw [if_pos hscb]
      by_cases c : bA b n (a + i) = h_sch v i
      · rw [if_pos c]
        refine hk _ ⟨rfl, fun j hj => ?_⟩
        by_cases ej : j = i
        · subst ej; exact c
        · exact hall j (by omega)
      · rw [if_neg c]
        refine ⟨0, rfl, ?_⟩
        rw [if_neg]
        intro q
        exact c (of_decide_eq_true (List.all_eq_true.mp q i (List.mem_range.mpr hi))))
    rw [r1, r2]
  · rw [if_neg (nI_neq _ (by omega) (by omega) hlen)]
    have hW : mW b n v a e = false := by unfold mW; rw [decide_eq_false hlen, Bool.false_and]
    rw [hW]; rfl
/-- the words differ -/
theorem wrd_ne : ∀ v w, v < 13 → w < 13 → v ≠ 0 → w ≠ 0 → v ≠ w → wLen v = wLen w → ∃ j, j < wLen v ∧ h_sch v j ≠ h_sch w j := by
  intro v w hv hw v0 w0 hne hl
  have h := dc2 (N := 13) (K := 13) (p := fun v w => v == 0 || (w == 0 || (v == w || (wLen v != wLen w || (List.range (wLen v)).any (fun j => decide (h_sch v j ≠ h_sch w j)))))) (by decide +kernel) hv hw
  rw [show (v == 0) = false from beq_eq_false_iff_ne.mpr v0, show (w == 0) = false from beq_eq_false_iff_ne.mpr w0, show (v == w) = false from beq_eq_false_iff_ne.mpr hne, show (wLen v != wLen w) = false from by rw [hl]; exact bne_self_eq_false _, Bool.false_or, Bool.false_or, Bool.false_or, Bool.false_or] at h
  obtain ⟨j, hj, hj2⟩ := List.any_eq_true.mp h
  exact ⟨j, List.mem_range.mp hj, of_decide_eq_true hj2⟩
theorem mW_one {b : Nat → Int32} {n v w a e : Nat} (hv : v < 13) (hw : w < 13) (v0 : v ≠ 0) (w0 : w ≠ 0) (h1 : mW b n v a e = true) (h2 : mW b n w a e = true) : v = w := by
  unfold mW at h1 h2
  rw [Bool.and_eq_true_iff] at h1 h2
  have l1 := of_decide_eq_true h1.1
  have l2 := of_decide_eq_true h2.1
  by_cases e1 : v = w
  · exact e1
  · obtain ⟨j, j1, j2⟩ := wrd_ne v w hv hw v0 w0 e1 (by omega)
    have q1 := of_decide_eq_true (List.all_eq_true.mp h1.2 j (List.mem_range.mpr j1))
    have q2 := of_decide_eq_true (List.all_eq_true.mp h2.2 j (List.mem_range.mpr (by omega)))
    exact absurd (q1.symm.trans q2) j2
/-- the word there: its number, or 0 -/
def wrd (b : Nat → Int32) (n a e : Nat) : Nat := ((List.range 13).find? (fun v => Nat.blt 0 v && mW b n v a e)).getD 0
theorem wrd_lt (b : Nat → Int32) (n a e : Nat) : wrd b n a e < 13 := by
  unfold wrd
  cases h : (List.range 13).find? (fun v => Nat.blt 0 v && mW b n v a e) with
  | none => decide
  | some v => exact List.mem_range.mp (List.mem_of_find?_eq_some h)
theorem wrd_iff {b : Nat → Int32} {n a e v : Nat} (hv : v < 13) (v0 : v ≠ 0) : mW b n v a e = true ↔ wrd b n a e = v := by
  unfold wrd
  constructor
  · intro h
    cases hf : (List.range 13).find? (fun v => Nat.blt 0 v && mW b n v a e) with
    | none =>
      have := List.find?_eq_none.mp hf v (List.mem_range.mpr hv)
      rw [h, Bool.and_true] at this
      exact absurd (Nat.ble_eq_true_of_le (show 0 + 1 ≤ v by omega)) this
    | some w =>
      have hw := List.mem_range.mp (List.mem_of_find?_eq_some hf)
      have hp := List.find?_some hf
      rw [Bool.and_eq_true_iff] at hp
      have w0 : w ≠ 0 := by have := Nat.le_of_ble_eq_true hp.1; omega
      exact (mW_one hv hw v0 w0 h hp.2).symm
  · intro h
    cases hf : (List.range 13).find? (fun v => Nat.blt 0 v && mW b n v a e) with
    | none => rw [hf] at h; exact absurd h.symm v0
    | some w =>
      rw [hf] at h
      have : w = v := h
      subst this
      have hp := List.find?_some hf
      rw [Bool.and_eq_true_iff] at hp
      exact hp.2
theorem x_isW {b : Nat → Int32} {n : Nat} {X : hMem} (h : TXx b n X) {v a e : Nat} (hv : v < 13) (v0 : v ≠ 0) (hae : a ≤ e) (he : e < 2 ^ 29) {A B : Option Int32} : ((fX5_isWord v (nI a) (nI e) X).bind fun q => if q = 0 then A else B) = if wrd b n a e = v then B else A := by
  rw [x_isWord h hv hae he, Option.bind_some, b01]
  by_cases c : mW b n v a e = true
  · rw [if_pos c, if_pos ((wrd_iff hv v0).mp c)]
  · rw [if_neg c, if_neg (fun q => c ((wrd_iff hv v0).mpr q))]
def nmV (w : Nat) : Int32 := if 1 ≤ w ∧ w ≤ 6 then nI (w - 1) else -1
def kyV (w : Nat) : Int32 := if 7 ≤ w then nI (w - 3) else 1
theorem x_name {b : Nat → Int32} {n : Nat} {X : hMem} (h : TXx b n X) {a e : Nat} (hae : a ≤ e) (he : e < 2 ^ 29) : fX5_nameBetween (nI a) (nI e) X = some (nmV (wrd b n a e)) := by
  unfold fX5_nameBetween
  rw [x_isW h (by decide) (by decide) hae he, x_isW h (by decide) (by decide) hae he, x_isW h (by decide) (by decide) hae he, x_isW h (by decide) (by decide) hae he, x_isW h (by decide) (by decide) hae he, x_isW h (by decide) (by decide) hae he]
  have hw := wrd_lt b n a e
  generalize wrd b n a e = w at hw ⊢
  revert hw
  revert w
  decide
theorem x_key {b : Nat → Int32} {n : Nat} {X : hMem} (h : TXx b n X) {a e : Nat} (hae : a ≤ e) (he : e < 2 ^ 29) : fX5_keyBetween (nI a) (nI e) X = some (kyV (wrd b n a e)) := by
  unfold fX5_keyBetween
  rw [x_isW h (by decide) (by decide) hae he, x_isW h (by decide) (by decide) hae he, x_isW h (by decide) (by decide) hae he, x_isW h (by decide) (by decide) hae he, x_isW h (by decide) (by decide) hae he, x_isW h (by decide) (by decide) hae he]
  have hw := wrd_lt b n a e
  generalize wrd b n a e = w at hw ⊢
  revert hw
  revert w
  decide
end
section
/-! TEXT: tokens, x's side -/
def sgn (v : Int32) : Bool := !decide (fX5_isSign v hM0 = 0)
def decS (b : Nat → Int32) (a : Nat) : Nat → Int32
  | 0 => 0
  | k + 1 => (10 * decS b a k + b (a + k)) - 48
theorem decS_s (b : Nat → Int32) (a k : Nat) : decS b a (k + 1) = (10 * decS b a k + b (a + k)) - 48 := rfl
def tW (b : Nat → Int32) (n i : Nat) : Nat := wrd b n i (tEnd b n i)
def tK (b : Nat → Int32) (n i : Nat) : Int32 := if n ≤ i then 0 else if dig (b i) = true then (if tEnd b n i - i ≤ 4 then 2 else 1) else if ltr (b i) = true then (if 1 ≤ tW b n i ∧ tW b n i ≤ 6 then 3 else kyV (tW b n i)) else if sgn (b i) = true then b i else 1
def tV (b : Nat → Int32) (n i : Nat) : Int32 := if tK b n i = 3 then nI (tW b n i - 1) else if tK b n i = 2 then decS b i (tEnd b n i - i) else 0
theorem tEnd_le {b : Nat → Int32} {n i : Nat} (hi : i ≤ n) : i ≤ tEnd b n i ∧ tEnd b n i ≤ n ∧ (i < n → i < tEnd b n i) := by
  unfold tEnd
  by_cases c1 : ltr (bA b n i) = true
  · have := bA_in (c := ltr) (by decide) c1
    rw [if_pos c1]
    have := spn_le (c := ltr) (by decide) (b := b) (n := n) 160 (i + 1) (by omega)
    omega
  · rw [if_neg c1]
    by_cases c2 : dig (bA b n i) = true
    · have := bA_in (c := dig) (by decide) c2
      rw [if_pos c2]
      have := spn_le (c := dig) (by decide) (b := b) (n := n) 160 (i + 1) (by omega)
      omega
    · rw [if_neg c2]
      omega
theorem nm_neg : ∀ w, w < 13 → (nmV w < 0 ↔ ¬ (1 ≤ w ∧ w ≤ 6)) := by decide
theorem ky_ne : ∀ w, w < 13 → ¬ kyV w = 3 ∧ ¬ kyV w = 2 ∧ ¬ kyV w = 0 := by decide
theorem x_kind {b : Nat → Int32} {n : Nat} {X : hMem} (h : TXx b n X) (hb : ∀ i, i < 160 → h_ib (b i) 256) {i : Nat} (hi : i ≤ n) : fX5_tokenBetween (nI i) (nI (tEnd b n i)) X = some (tK b n i) := by
  have hn := h.1
  obtain ⟨t1, t2, t3⟩ := tEnd_le (b := b) hi
  unfold fX5_tokenBetween tK
  rw [x_byte h (by omega), Option.bind_some]
  by_cases hin : n ≤ i
  · rw [if_pos hin, show bA b n i = -1 from if_neg (by omega), if_neg (show ¬ (0 : Int32) ≤ -1 from by decide)]
  · have e : bA b n i = b i := if_pos (by omega)
    rw [if_neg hin, e, if_pos (hb i (by omega)).1, x_dig, x_ltr, b01, b01]
    by_cases c1 : dig (b i) = true
    · rw [if_pos c1, if_pos c1, pk_sub t1]
      by_cases c2 : tEnd b n i - i ≤ 4
      · rw [if_pos (show nI (tEnd b n i - i) ≤ (4 : Int32) from nI_le (b := 4) c2 (by decide)), if_pos c2]
      · rw [if_neg (show ¬ nI (tEnd b n i - i) ≤ (4 : Int32) from nI_ge (a := 4) (by omega) (by omega)), if_neg c2]
    · rw [if_neg c1, if_neg c1]
      by_cases c2 : ltr (b i) = true
      · rw [if_pos c2, if_pos c2, x_name h t1 (by omega), Option.bind_some, x_key h t1 (by omega), Option.bind_some]
        unfold tW
        have hw := wrd_lt b n i (tEnd b n i)
        by_cases c3 : 1 ≤ wrd b n i (tEnd b n i) ∧ wrd b n i (tEnd b n i) ≤ 6
        · rw [if_neg (fun q => ((nm_neg _ hw).mp q) c3), if_pos c3]
        · rw [if_pos ((nm_neg _ hw).mpr c3), if_neg c3]
      · rw [if_neg c2, if_neg c2]
        unfold sgn
        rw [show fX5_isSign (b i) X = fX5_isSign (b i) hM0 from rfl]
        by_cases c3 : fX5_isSign (b i) hM0 = 0
        · rw [if_pos c3, decide_eq_true c3]; rfl
        · rw [if_neg c3, decide_eq_false c3]; rfl
theorem x_val {b : Nat → Int32} {n : Nat} {X : hMem} (h : TXx b n X) {i : Nat} (hi : i ≤ n) : fX5_valueOf (tK b n i) (nI i) (nI (tEnd b n i)) X = some (tV b n i) := by
  have hn := h.1
  obtain ⟨t1, t2, t3⟩ := tEnd_le (b := b) hi
  unfold fX5_valueOf tV
  by_cases c3 : tK b n i = 3
  · rw [if_pos c3, if_pos c3, x_name h t1 (by omega), Option.bind_some]
    have hw := wrd_lt b n i (tEnd b n i)
    have : 1 ≤ tW b n i ∧ tW b n i ≤ 6 := by
      unfold tK at c3
      by_cases a1 : n ≤ i
      · rw [if_pos a1] at c3; exact absurd c3 (by decide)
      rw [if_neg a1] at c3
      by_cases a2 : dig (b i) = true
      · rw [if_pos a2] at c3
        by_cases a3 : tEnd b n i - i ≤ 4
        · rw [if_pos a3] at c3; exact absurd c3 (by decide)
        · rw [if_neg a3] at c3; exact absurd c3 (by decide)
      rw [if_neg a2] at c3
      by_cases a4 : ltr (b i) = true
      · rw [if_pos a4] at c3
        by_cases a5 : 1 ≤ tW b n i ∧ tW b n i ≤ 6
        · exact a5
        · rw [if_neg a5] at c3; exact absurd c3 (ky_ne _ hw).1
      · rw [if_neg a4] at c3
        by_cases a6 : sgn (b i) = true
        · rw [if_pos a6] at c3
          rw [c3] at a6
          exact absurd a6 (by decide)
        · rw [if_neg a6] at c3; exact absurd c3 (by decide)
    unfold nmV
    unfold tW at this ⊢
    rw [if_pos this]
  · rw [if_neg c3, if_neg c3]
    by_cases c2 : tK b n i = 2
    · rw [c2, if_pos rfl]
      obtain ⟨r, r1, r2⟩ := lp_u0 (body := fX5_valueOf_L18 2 (nI (tEnd b n i)) X) (tEnd b n i - i) (fun k z => z = (decS b i k, nI (i + k))) (fun r => r = decS b i (tEnd b n i - i)) (0, nI i) rfl (by omega) (by
        rintro k z rfl
        unfold fX5_valueOf_L18
        dsimp only
        rw [if_pos (nI_le (by omega) (by omega))]
        exact ⟨_, rfl, rfl⟩) (by
        rintro k j z hj rfl hk
        unfold fX5_valueOf_L18
        dsimp only
        rw [if_neg (nI_ge (by omega) (by omega)), if_pos rfl, x_byte h (by omega), Option.bind_some, nI_1, show bA b n (i + j) = b (i + j) from if_pos (by omega), ← decS_s]
        exact hk _ rfl)
      rw [r1, r2]
    · rw [if_neg c2]
      unfold h_FU
      rw [show (20000 : Nat) = 19999 + 1 from rfl, lp_s]
      unfold fX5_valueOf_L18
      dsimp only
      by_cases c4 : nI (tEnd b n i) ≤ nI i
      · rw [if_pos c4]
      · rw [if_neg c4, if_neg c2]
/-- where the k-th token begins -/
def plc (b : Nat → Int32) (n : Nat) : Nat → Nat
  | 0 => spn blk b n 160 0
  | k + 1 => spn blk b n 160 (tEnd b n (plc b n k))
theorem plc_le (b : Nat → Int32) (n : Nat) : ∀ k, plc b n k ≤ n
  | 0 => (spn_le (c := blk) (by decide) 160 0 (Nat.zero_le _)).2
  | k + 1 => (spn_le (c := blk) (by decide) 160 _ (tEnd_le (b := b) (plc_le b n k)).2.1).2
theorem x_parts {b : Nat → Int32} {n : Nat} {X : hMem} (h : TXx b n X) (hb : ∀ i, i < 160 → h_ib (b i) 256) : ∃ X', fX5_partTokens X = some X' ∧ (∀ a, a ≠ 32 → a ≠ 33 → a ≠ 34 → X' a = X a) ∧ ∀ k, k ≤ 160 → (∀ j, j < k → tK b n (plc b n j) ≠ 0 ∧ tK b n (plc b n j) ≠ 1) → X' 32 k = tK b n (plc b n k) ∧ X' 33 k = nI (plc b n k) ∧ X' 34 k = tV b n (plc b n k) := by
  have hn := h.1
  unfold fX5_partTokens
  refine lp_u0 (body := fX5_partTokens_L6) 161 (fun i z => ∃ (p : Nat) (l : Int32) (Y : hMem), z = (nI p, nI i, l, Y) ∧ p ≤ n ∧ spn blk b n 160 p = plc b n i ∧ (i = 0 ∧ l = -1 ∨ 0 < i ∧ l = tK b n (plc b n (i - 1))) ∧ (∀ a, a ≠ 32 → a ≠ 33 → a ≠ 34 → Y a = X a) ∧ (∀ j, j < i → Y 32 j = tK b n (plc b n j) ∧ Y 33 j = nI (plc b n j) ∧ Y 34 j = tV b n (plc b n j))) _ (0, 0, -1, X) ⟨0, -1, X, rfl, by omega, rfl, Or.inl ⟨rfl, rfl⟩, fun _ _ _ _ => rfl, fun j hj => absurd hj (Nat.not_lt_zero _)⟩ (by omega) ?_ ?_
  · rintro k z ⟨p, l, Y, rfl, hp, hs, hl, hY, hR⟩
    unfold fX5_partTokens_L6
    dsimp only
    rw [if_pos (show (160 : Int32) < nI 161 from by decide)]
    exact ⟨_, rfl, hY, fun k hk _ => hR k (by omega)⟩
  · rintro k i z hi ⟨p, l, Y, rfl, hp, hs, hl, hY, hR⟩ hk
    unfold fX5_partTokens_L6
    dsimp only
    rw [if_neg (show ¬ (160 : Int32) < nI i from nI_nlt (a := 160) (by omega) (by omega))]
    by_cases l0 : l = 0
    · rw [if_pos l0]
      refine ⟨_, rfl, hY, fun k hk hall => ?_⟩
      by_cases hki : k < i
      · exact hR k hki
      · rcases hl with ⟨q1, q2⟩ | ⟨q1, q2⟩
        · rw [q2] at l0; exact absurd l0 (by decide)
        · exact absurd (q2.symm.trans l0) (hall (i - 1) (by omega)).1
    rw [if_neg l0]
    by_cases l1 : l = 1
    · rw [if_pos l1]
      refine ⟨_, rfl, hY, fun k hk hall => ?_⟩
      by_cases hki : k < i
      · exact hR k hki
      · rcases hl with ⟨q1, q2⟩ | ⟨q1, q2⟩
        · rw [q2] at l1; exact absurd l1 (by decide)
        · exact absurd (q2.symm.trans l1) (hall (i - 1) (by omega)).2
    have hT : TXx b n Y := ⟨hn, by rw [hY 30 (by omega) (by omega) (by omega)]; exact h.2.1, by rw [hY 31 (by omega) (by omega) (by omega)]; exact h.2.2⟩
    have hpl := plc_le b n i
    have hT2 : TXx b n (h_up (h_up Y 32 i (tK b n (plc b n i))) 33 i (nI (plc b n i))) := ⟨hn, by rw [m_row (by omega), m_row (by omega)]; exact hT.2.1, by rw [m_row (by omega), m_row (by omega)]; exact hT.2.2⟩
    have h161 : h_ib (nI i) 161 := ib_mk (by omega) (by omega)
    rw [if_neg l1, x_blanks hT (by omega), Option.bind_some, hs, x_tEnd hT (by omega), Option.bind_some, x_kind hT hb hpl, Option.bind_some]
    simp only [if_pos h161, nI_clamp (show i < 2 ^ 31 by omega)]
    rw [x_val hT2 hpl, Option.bind_some, nI_1]
    refine hk _ ⟨tEnd b n (plc b n i), tK b n (plc b n i), _, rfl, (tEnd_le hpl).2.1, rfl, Or.inr ⟨by omega, by rw [Nat.add_sub_cancel]⟩, fun a a1 a2 a3 => ?_, fun j hj => ?_⟩
    · rw [m_row a3, m_row a2, m_row a1]; exact hY a a1 a2 a3
    · simp (disch := omega) only [m_row, m_own]
      by_cases e : j = i
      · subst e; simp only [u_s]; exact ⟨trivial, trivial, trivial⟩
      · simp (disch := omega) only [u_n]; exact hR j (by omega)
end
section
/-! TEXT: tokens, the other one's -/
def mwd (v : Nat) : Nat := if v < 3 then v + 7 else if v < 9 then v - 2 else v + 1
theorem mwd_b : ∀ v, v < 12 → mwd v < 13 ∧ mwd v ≠ 0 ∧ wLen (mwd v) ≤ 8 := fun v hv => of_decide_eq_true (h_forall (N := 12) (p := fun v => decide (mwd v < 13 ∧ mwd v ≠ 0 ∧ wLen (mwd v) ≤ 8)) (by decide +kernel) hv)
theorem wds_eq {v j : Nat} (hv : v < 12) (hj : j < 8) : wdsL.getD (8 * v + j) 0 = if j < wLen (mwd v) then h_sch (mwd v) j else 32 := of_decide_eq_true (dc2 (N := 12) (K := 8) (p := fun v j => decide (wdsL.getD (8 * v + j) 0 = if j < wLen (mwd v) then h_sch (mwd v) j else 32)) (by decide +kernel) hv hj)
theorem sch_ne {v j : Nat} (hv : v < 12) (hj : j < wLen (mwd v)) : h_sch (mwd v) j ≠ 32 := by
  have := (mwd_b v hv).2.2
  have h := of_decide_eq_true (dc2 (N := 12) (K := 8) (p := fun v j => decide (j < wLen (mwd v) → h_sch (mwd v) j ≠ 32)) (by decide +kernel) hv (show j < 8 by omega))
  exact h hj
def TXm (b : Nat → Int32) (n : Nat) (M : hMem) : Prop := n ≤ 160 ∧ M 0 11 = nI n ∧ (∀ i, i < 160 → M 9 i = b i) ∧ ∀ i, i < 96 → M 17 i = wdsL.getD i 0
theorem m_word1 {b : Nat → Int32} {n : Nat} {M : hMem} (h : TXm b n M) {a e v : Nat} (hv : v < 12) (hae : a < e) (he : e ≤ n) (hnb : ∀ j, a ≤ j → j < e → b j ≠ 32) (k2 : Int32 → Option Int32) (r0 : Int32) (hk : mW b n (mwd v) a e = false → k2 (nI (v + 1)) = some r0) : ∃ r, h_lp (fX10_wordFrom_L26 k2 (nI a) (nI e) (nI v) M) h_FU ((if 8 < nI e - nI a then 0 else 1), 0) = some r ∧ r = if mW b n (mwd v) a e = true then nI v else r0 := by
  obtain ⟨hn, h1, h2, h3⟩ := h
  obtain ⟨w1, w2, w3⟩ := mwd_b v hv
  rw [pk_sub (by omega)]
  by_cases c8 : 8 < e - a
  · have hf : mW b n (mwd v) a e = false := by unfold mW; rw [decide_eq_false (by omega), Bool.false_and]
    rw [if_pos (show (8 : Int32) < nI (e - a) from nI_lt (a := 8) c8 (by omega)), hf]
    unfold h_FU
    rw [show (20000 : Nat) = 19999 + 1 from rfl, lp_s]
    unfold fX10_wordFrom_L26
    dsimp only
    rw [if_neg (show ¬ (8 : Int32) ≤ 0 from by decide), if_pos rfl, if_pos rfl, nI_1, hk hf]
    exact ⟨r0, rfl, rfl⟩
  · rw [if_neg (show ¬ (8 : Int32) < nI (e - a) from nI_nlt (a := 8) (by omega) (by omega))]
    have hch : ∀ j, j < 8 → ((if a + j < e then b (a + j) else 32) = wdsL.getD (8 * v + j) 0 ↔ ((j < e - a ↔ j < wLen (mwd v)) ∧ (j < e - a → bA b n (a + j) = h_sch (mwd v) j))) := by
      intro j hj
      rw [wds_eq hv hj]
      by_cases c1 : a + j < e
      · rw [if_pos c1]
        have eb : bA b n (a + j) = b (a + j) := if_pos (by omega)
        by_cases c2 : j < wLen (mwd v)
        · rw [if_pos c2, eb]
          exact ⟨fun q => ⟨⟨fun _ => c2, fun _ => by omega⟩, fun _ => q⟩, fun q => q.2 (by omega)⟩
        · rw [if_neg c2]
          exact ⟨fun q => absurd q (hnb _ (by omega) c1), fun q => absurd (q.1.mp (by omega)) c2⟩
      · rw [if_neg c1]
        by_cases c2 : j < wLen (mwd v)
        · rw [if_pos c2]
          exact ⟨fun q => absurd q.symm (sch_ne hv c2), fun q => absurd (q.1.mpr c2) (by omega)⟩
        · rw [if_neg c2]
          exact ⟨fun _ => ⟨⟨fun q => absurd q (by omega), fun q => absurd q c2⟩, fun q => absurd q (by omega)⟩, fun _ => rfl⟩
    have hmw : mW b n (mwd v) a e = true ↔ ∀ j, j < 8 → (if a + j < e then b (a + j) else 32) = wdsL.getD (8 * v + j) 0 := by
      unfold mW
      rw [Bool.and_eq_true_iff, decide_eq_true_eq, List.all_eq_true]
      constructor
      · rintro ⟨q1, q2⟩ j hj
        rw [hch j hj, q1]
        exact ⟨Iff.rfl, fun hl => of_decide_eq_true (q2 j (List.mem_range.mpr hl))⟩
      · intro q
        have hl : e - a = wLen (mwd v) := by
          rcases Nat.lt_or_ge (e - a) (wLen (mwd v)) with g | g
          · have := ((hch (e - a) (by omega)).mp (q _ (by omega))).1.mpr g
            omega
          · rcases Nat.lt_or_ge (wLen (mwd v)) (e - a) with g2 | g2
            · have := ((hch (wLen (mwd v)) (by omega)).mp (q _ (by omega))).1.mp g2
              omega
            · omega
        exact ⟨hl, fun j hj => decide_eq_true (((hch j (by have := List.mem_range.mp hj; omega)).mp (q j (by have := List.mem_range.mp hj; omega))).2 (by have := List.mem_range.mp hj; omega))⟩
    refine lp_u0 (body := fX10_wordFrom_L26 k2 (nI a) (nI e) (nI v) M) 8 (fun i z => ∃ f : Nat, f < 2 ∧ z = (nI f, nI i) ∧ (f = 1 ↔ ∀ j, j < i → (if a + j < e then b (a + j) else 32) = wdsL.getD (8 * v + j) 0)) _ (1, 0) ⟨1, by omega, rfl, fun _ j hj => absurd hj (Nat.not_lt_zero _), fun _ => rfl⟩ (by omega) ?_ ?_
    · rintro k z ⟨f, hf, rfl, hff⟩
      unfold fX10_wordFrom_L26
      dsimp only
      rw [if_pos (show (8 : Int32) ≤ nI 8 from by decide)]
      by_cases c : mW b n (mwd v) a e = true
      · have f1 := hff.mpr (hmw.mp c)
        subst f1
        rw [if_neg (show ¬ nI 1 = (0 : Int32) from by decide), if_pos c]
        exact ⟨_, rfl, rfl⟩
      · have f0 : f = 0 := by
          rcases (by omega : f = 0 ∨ f = 1) with q | q
          · exact q
          · exact absurd (hmw.mpr (hff.mp q)) c
        subst f0
        rw [if_pos (show nI 0 = (0 : Int32) from rfl), nI_1, hk (eq_false_of_ne_true c), if_neg c]
        exact ⟨_, rfl, rfl⟩
    · rintro k i z hi ⟨f, hf, rfl, hff⟩ hk2
      unfold fX10_wordFrom_L26
      dsimp only
      rw [if_neg (show ¬ (8 : Int32) ≤ nI i from nI_ge (b := 8) hi (by decide))]
      rcases (by omega : f = 0 ∨ f = 1) with rfl | rfl
      · have c : ¬ mW b n (mwd v) a e = true := fun c => by
          have := hff.mpr (fun j hj => hmw.mp c j (by omega))
          exact absurd this (by decide)
        rw [if_pos (show nI 0 = (0 : Int32) from rfl), if_pos (show nI 0 = (0 : Int32) from rfl), nI_1, hk (eq_false_of_ne_true c), if_neg c]
        exact ⟨_, rfl, rfl⟩
      · have hall := hff.mp rfl
        rw [if_neg (show ¬ nI 1 = (0 : Int32) from by decide), show (8 : Int32) * nI v = nI (8 * v) from pk_mul 8 v, nI_add, nI_add, if_pos (show h_ib (nI (8 * v + i)) 96 from ib_mk (by omega) (by omega))]
        simp only [nI_clamp (show 8 * v + i < 2 ^ 31 by omega), nI_clamp (show a + i < 2 ^ 31 by omega), h3 (8 * v + i) (by omega)]
        have fin : ∃ r, fX10_wordFrom_L72 k2 k (nI a) (nI e) (nI v) (nI i) (if a + i < e then b (a + i) else 32) (wdsL.getD (8 * v + i) 0) M = some r ∧ r = if mW b n (mwd v) a e = true then nI v else r0 := by
          unfold fX10_wordFrom_L72
          rw [nI_1]
          by_cases c : wdsL.getD (8 * v + i) 0 = (if a + i < e then b (a + i) else 32)
          · rw [if_pos c]
            refine hk2 _ ⟨1, by omega, rfl, fun _ j hj => ?_, fun _ => rfl⟩
            by_cases ej : j = i
            · subst ej; exact c.symm
            · exact hall j (by omega)
          · rw [if_neg c]
            exact hk2 _ ⟨0, by omega, rfl, fun q => absurd q (by decide), fun q => absurd (q i (by omega)).symm c⟩
        by_cases c : a + i < e
        · rw [if_neg (nI_ge c (by omega)), if_pos (ib_mk (by omega) (by omega)), h2 _ (by omega)]
          rw [if_pos c] at fin
          exact fin
        · rw [if_pos (nI_le (by omega) (by omega))]
          rw [if_neg c] at fin
          exact fin
def mIdx (w : Nat) : Nat := if w = 0 then 12 else if w < 7 then w + 2 else if w < 10 then w - 7 else w - 1
theorem mIdx_ok : ∀ w, w < 13 → ∀ v, v < 12 → (mwd v = w ↔ mIdx w = v) := by decide +kernel
theorem m_word {b : Nat → Int32} {n : Nat} {M : hMem} (h : TXm b n M) {a e : Nat} (hae : a < e) (he : e ≤ n) (hnb : ∀ j, a ≤ j → j < e → b j ≠ 32) : fX10_wordFrom (nI a) (nI e) M = some (nI (mIdx (wrd b n a e))) := by
  have hw := wrd_lt b n a e
  have hm : ∀ v, v < 12 → (mW b n (mwd v) a e = true ↔ mIdx (wrd b n a e) = v) := fun v hv => by
    rw [wrd_iff (mwd_b v hv).1 (mwd_b v hv).2.1, eq_comm, mIdx_ok _ hw v hv]
  have hm12 : mIdx (wrd b n a e) ≤ 12 := by
    have : ∀ w, w < 13 → mIdx w ≤ 12 := by decide
    exact this _ hw
  unfold fX10_wordFrom
  generalize mIdx (wrd b n a e) = q at hm hm12 ⊢
  obtain ⟨r, r1, r2⟩ := lp_u0 (body := fX10_wordFrom_L2 (nI a) (nI e) M) 12 (fun i z => z = nI i ∧ i ≤ q) (fun r => r = nI q) 0 ⟨rfl, Nat.zero_le _⟩ (by omega) (by
    rintro k z ⟨rfl, hq⟩
    unfold fX10_wordFrom_L2
    rw [if_pos (show (12 : Int32) ≤ nI 12 from by decide)]
    exact ⟨_, rfl, by rw [show q = 12 from by omega]; rfl⟩) (by
    rintro k i z hi ⟨rfl, hq⟩ hk
    unfold fX10_wordFrom_L2
    rw [if_neg (show ¬ (12 : Int32) ≤ nI i from nI_ge (b := 12) hi (by decide))]
    have go : ∃ r, h_lp (fX10_wordFrom_L26 k (nI a) (nI e) (nI i) M) h_FU ((if 8 < nI e - nI a then 0 else 1), 0) = some r ∧ r = nI q := by
      by_cases c : mW b n (mwd i) a e = true
      · obtain ⟨r, r1, r2⟩ := m_word1 h hi hae he hnb k 0 (fun hf => by rw [c] at hf; cases hf)
        refine ⟨r, r1, ?_⟩
        rw [r2, if_pos c, (hm i hi).mp c]
      · have hne : q ≠ i := fun h => c ((hm i hi).mpr h)
        obtain ⟨r', k1, k2⟩ := hk (nI (i + 1)) ⟨rfl, by omega⟩
        obtain ⟨r, r1, r2⟩ := m_word1 h hi hae he hnb k r' (fun _ => k1)
        refine ⟨r, r1, ?_⟩
        rw [r2, if_neg c, k2]
    by_cases c8 : 8 < nI e - nI a
    · rw [if_pos c8]
      rw [if_pos c8] at go
      exact go
    · rw [if_neg c8]
      rw [if_neg c8] at go
      exact go)
  rw [r1, r2]
end
section
/-! TEXT: the other one's next token -/
theorem spn_all {c : Int32 → Bool} {b : Nat → Int32} {n : Nat} : ∀ (f i j : Nat), i ≤ j → j < spn c b n f i → c (bA b n j) = true
  | 0, i, j, h1, h2 => absurd h2 (by show ¬ j < i; omega)
  | f + 1, i, j, h1, h2 => by
    rw [spn_s] at h2
    by_cases h : c (bA b n i) = true
    · rw [if_pos h] at h2
      by_cases e : j = i
      · subst e; exact h
      · exact spn_all f (i + 1) j (by omega) h2
    · rw [if_neg h] at h2; omega
theorem spn_end {c : Int32 → Bool} (hc : c (-1) = false) {b : Nat → Int32} {n : Nat} : ∀ (f i : Nat), n - i ≤ f → c (bA b n (spn c b n f i)) = false
  | 0, i, h => by
    show c (bA b n i) = false
    rw [show bA b n i = -1 from if_neg (by omega)]; exact hc
  | f + 1, i, h => by
    rw [spn_s]
    by_cases h1 : c (bA b n i) = true
    · rw [if_pos h1]; exact spn_end hc f (i + 1) (by omega)
    · rw [if_neg h1]; exact eq_false_of_ne_true h1
def mK (k : Int32) : Int32 := if k = 0 then 0 else if k = 1 then -1 else if k = 2 then 1 else if k = 3 then 2 else if k ≤ 6 then 3 else if k ≤ 9 then k - 3 else k
def pTok (b : Nat → Int32) (n q : Nat) (S r : hMem) : Prop := (∀ a, a ≠ 0 → r a = S a) ∧ (∀ j, j < 25 ∨ 28 < j → r 0 j = S 0 j) ∧ r 0 26 = nI q ∧ r 0 25 = nI (tEnd b n q) ∧ r 0 27 = mK (tK b n q) ∧ ((tK b n q = 2 ∨ tK b n q = 3) → r 0 28 = tV b n q) ∧ ∀ g, g < 3 → tK b n q = nI (4 + g) → r 0 28 = nI g
def kW (w : Nat) : Int32 := if 1 ≤ w ∧ w ≤ 6 then 3 else kyV w
theorem kW_ok : ∀ w, w < 13 → ¬ kW w = 2 ∧ (if 3 ≤ nI (mIdx w) then (if 9 ≤ nI (mIdx w) then (if nI (mIdx w) = 12 then -1 else (4 + nI (mIdx w)) - 9) else 2) else 3) = mK (kW w) ∧ (kW w = 3 → (if 3 ≤ nI (mIdx w) then nI (mIdx w) - 3 else nI (mIdx w)) = nI (w - 1)) ∧ ∀ g, g < 3 → kW w = nI (4 + g) → (if 3 ≤ nI (mIdx w) then nI (mIdx w) - 3 else nI (mIdx w)) = nI g := by decide +kernel
theorem m_sign {b : Nat → Int32} {n q : Nat} {S S1 : hMem} {v : Int32} (hq : q < n) (hn : n ≤ 160) (f1 : ∀ a, a ≠ 0 → S1 a = S a) (f2 : ∀ j, j < 25 ∨ 28 < j → S1 0 j = S 0 j) (f26 : S1 0 26 = nI q) (f25 : S1 0 25 = nI q) (ht : tEnd b n q = q + 1) (hK : mK (tK b n q) = v) (h23 : ¬ (tK b n q = 2 ∨ tK b n q = 3)) (h456 : ∀ g, g < 3 → ¬ tK b n q = nI (4 + g)) : pTok b n q S (h_up (h_up S1 0 27 v) 0 25 (((h_up S1 0 27 v) 0 25) + 1)) := by
  refine ⟨fun a ha => ?_, fun j hj => ?_, ?_, ?_, ?_, fun h => absurd h h23, fun g hg h => absurd h (h456 g hg)⟩
  · rw [m_row ha, m_row ha]; exact f1 a ha
  · simp (disch := omega) only [m_own, u_n]; exact f2 j hj
  · simp (disch := omega) only [m_own, u_n]; exact f26
  · simp (disch := omega) only [m_own, u_n, u_s]; rw [f25, nI_1, ht]
  · simp (disch := omega) only [m_own, u_n, u_s]; exact hK.symm
theorem m_52 {b : Nat → Int32} {n q : Nat} {S : hMem} (h : TXm b n S) (hb : ∀ i, i < 160 → h_ib (b i) 256) (hq : q ≤ n) (h25 : S 0 25 = nI q) : ∃ r, fX10_next_L52 S = some r ∧ pTok b n q S r := by
  obtain ⟨hn, h1, h2, h3⟩ := h
  obtain ⟨t1, t2, t3⟩ := tEnd_le (b := b) hq
  unfold fX10_next_L52
  obtain ⟨S1, hS⟩ : ∃ S1 : hMem, S1 = h_up (h_up (h_up S 0 26 (S 0 25)) 0 27 0) 0 28 0 := ⟨_, rfl⟩
  rw [← hS]
  have f1 : ∀ a, a ≠ 0 → S1 a = S a := fun a ha => by rw [hS]; simp (disch := omega) only [m_row]
  have f2 : ∀ j, j < 25 ∨ 28 < j → S1 0 j = S 0 j := fun j hj => by rw [hS]; simp (disch := omega) only [m_own, u_n]
  have f25 : S1 0 25 = nI q := by rw [hS]; simp (disch := omega) only [m_own, u_n]; exact h25
  have f26 : S1 0 26 = nI q := by rw [hS]; simp (disch := omega) only [m_own, u_n, u_s]; exact h25
  have f27 : S1 0 27 = 0 := by rw [hS]; simp (disch := omega) only [m_own, u_n, u_s]
  have f28 : S1 0 28 = 0 := by rw [hS]; simp (disch := omega) only [m_own, u_s]
  have f11 : S1 0 11 = nI n := by rw [f2 11 (by omega)]; exact h1
  clear hS
  rw [f25, f11]
  by_cases hqn : q = n
  · rw [if_pos (by rw [hqn])]
    have hk : tK b n q = 0 := if_pos (by omega)
    refine ⟨S1, rfl, f1, f2, f26, by rw [f25, show tEnd b n q = q from by omega], by rw [f27, hk]; rfl, fun hh => ?_, fun g hg hh => ?_⟩
    · rw [hk] at hh; exact absurd hh (by decide)
    · rw [hk] at hh; exact absurd hh (show ¬ nI 0 = nI (4 + g) from nI_neq _ (by omega) (by omega) (by omega))
  · have hlt : q < n := by omega
    have e9 : ∀ i, i < 160 → S1 9 i = b i := fun i hi => by rw [f1 9 (by omega)]; exact h2 i hi
    have eb : bA b n q = b q := if_pos hlt
    rw [if_neg (nI_neq _ (by omega) (by omega) hqn), if_pos (ib_mk (by omega) (by omega)), nI_clamp (by omega), e9 q (by omega), m_ltr, b01, m_dig, b01]
    by_cases cl : ltr (b q) = true
    · rw [if_pos cl]
      have cd : ¬ dig (b q) = true := fun hd => by
        unfold dig at hd
        unfold ltr at cl
        rw [Bool.and_eq_true_iff, Bool.not_eq_true', Bool.not_eq_true', decide_eq_false_iff_not, decide_eq_false_iff_not] at hd cl
        exact hd.2 (by
          have a1 := cl.1
          rw [Int32.lt_iff_toInt_lt] at a1 ⊢
          have e1 : (97 : Int32).toInt = 97 := by decide
          have e2 : (57 : Int32).toInt = 57 := by decide
          omega)
      have hte : tEnd b n q = spn ltr b n 160 (q + 1) := by unfold tEnd; rw [eb, if_pos cl]
      have hall : ∀ j, q ≤ j → j < tEnd b n q → ltr (bA b n j) = true := fun j j1 j2 => by
        by_cases e : j = q
        · subst e; rw [eb]; exact cl
        · rw [hte] at j2; exact spn_all 160 (q + 1) j (by omega) j2
      have hend : ltr (bA b n (tEnd b n q)) = false := by rw [hte]; exact spn_end (by decide) 160 (q + 1) (by omega)
      have hw := wrd_lt b n q (tEnd b n q)
      have hk : tK b n q = kW (wrd b n q (tEnd b n q)) := by unfold tK kW tW; rw [if_neg (by omega), if_neg cd, if_pos cl]
      have hnb : ∀ j, q ≤ j → j < tEnd b n q → b j ≠ 32 := fun j j1 j2 e => by
        have := hall j j1 j2
        rw [show bA b n j = b j from if_pos (by omega), e] at this
        exact absurd this (by decide)
      refine lp_up (body := fX10_next_L103) (tEnd b n q) (fun p s => s 0 25 = nI p ∧ (∀ a, a ≠ 0 → s a = S1 a) ∧ (∀ j, j ≠ 25 → s 0 j = S1 0 j) ∧ q ≤ p) _ ?_ ?_ h_FU q S1 t1 ⟨f25, fun _ _ => rfl, fun _ _ => rfl, Nat.le_refl _⟩ (by unfold h_FU; omega)
      · rintro k s ⟨g1, g2, g3, -⟩
        have l146 : ∃ r, fX10_next_L146 s = some r ∧ pTok b n q S r := by
          have hT : TXm b n s := ⟨hn, by rw [g3 11 (by omega)]; exact f11, fun i hi => by rw [g2 9 (by omega)]; exact e9 i hi, fun i hi => by rw [g2 17 (by omega), f1 17 (by omega)]; exact h3 i hi⟩
          unfold fX10_next_L146
          rw [g3 26 (by omega), f26, g1, m_word hT (t3 hlt) t2 hnb, Option.bind_some]
          have hL : ∀ v t, fX10_next_L195 v t s = some (h_up (h_up s 0 27 t) 0 28 (if 3 ≤ v then v - 3 else v)) := fun v t => by
            unfold fX10_next_L195
            by_cases c : 3 ≤ v
            · rw [if_pos c, if_pos c]
            · rw [if_neg c, if_neg c]
          simp only [hL]
          obtain ⟨k1, k2, k3, k4⟩ := kW_ok _ hw
          have htV : tK b n q = 3 → tV b n q = nI (wrd b n q (tEnd b n q) - 1) := fun e => by unfold tV tW; rw [if_pos e]
          generalize wrd b n q (tEnd b n q) = w at *
          have fin : ∀ t, t = mK (kW w) → pTok b n q S (h_up (h_up s 0 27 t) 0 28 (if 3 ≤ nI (mIdx w) then nI (mIdx w) - 3 else nI (mIdx w))) := fun t ht => by
            refine ⟨fun a ha => ?_, fun j hj => ?_, ?_, ?_, ?_, fun hh => ?_, fun g hg hh => ?_⟩
            · rw [m_row ha, m_row ha, g2 a ha]; exact f1 a ha
            · simp (disch := omega) only [m_own, u_n]; rw [g3 j (by omega)]; exact f2 j hj
            · simp (disch := omega) only [m_own, u_n]; rw [g3 26 (by omega)]; exact f26
            · simp (disch := omega) only [m_own, u_n]; exact g1
            · simp (disch := omega) only [m_own, u_n, u_s]; rw [ht, hk]
            · simp (disch := omega) only [m_own, u_s]
              rw [hk] at hh
              rcases hh with hh | hh
              · exact absurd hh k1
              · rw [htV (by rw [hk]; exact hh)]; exact k3 hh
            · simp (disch := omega) only [m_own, u_s]
              rw [hk] at hh
              exact k4 g hg hh
          have hfin : ∃ t, (if 3 ≤ nI (mIdx w) then (if 9 ≤ nI (mIdx w) then (if nI (mIdx w) = 12 then some (h_up (h_up s 0 27 (-1)) 0 28 (if 3 ≤ nI (mIdx w) then nI (mIdx w) - 3 else nI (mIdx w))) else some (h_up (h_up s 0 27 ((4 + nI (mIdx w)) - 9)) 0 28 (if 3 ≤ nI (mIdx w) then nI (mIdx w) - 3 else nI (mIdx w)))) else some (h_up (h_up s 0 27 2) 0 28 (if 3 ≤ nI (mIdx w) then nI (mIdx w) - 3 else nI (mIdx w)))) else some (h_up (h_up s 0 27 3) 0 28 (if 3 ≤ nI (mIdx w) then nI (mIdx w) - 3 else nI (mIdx w)))) = some (h_up (h_up s 0 27 t) 0 28 (if 3 ≤ nI (mIdx w) then nI (mIdx w) - 3 else nI (mIdx w))) ∧ t = (if 3 ≤ nI (mIdx w) then (if 9 ≤ nI (mIdx w) then (if nI (mIdx w) = 12 then -1 else (4 + nI (mIdx w)) - 9) else 2) else 3) := by
            by_cases d1 : 3 ≤ nI (mIdx w)
            · by_cases d2 : 9 ≤ nI (mIdx w)
              · by_cases d3 : nI (mIdx w) = 12
                · simp only [if_pos d1, if_pos d2, if_pos d3]; exact ⟨_, rfl, rfl⟩
                · simp only [if_pos d1, if_pos d2, if_neg d3]; exact ⟨_, rfl, rfl⟩
              · simp only [if_pos d1, if_neg d2]; exact ⟨_, rfl, rfl⟩
            · simp only [if_neg d1]; exact ⟨_, rfl, rfl⟩
          obtain ⟨t, e1, e2⟩ := hfin
          exact ⟨_, e1, fin t (by rw [e2]; exact k2)⟩
        unfold fX10_next_L103
        rw [g3 11 (by omega), f11, g1]
        by_cases c : n ≤ tEnd b n q
        · rw [if_pos (nI_le c (by omega))]; exact l146
        · rw [if_neg (nI_ge (by omega) (by omega)), if_pos (ib_mk (by omega) (by omega)), nI_clamp (by omega), g2 9 (by omega), e9 _ (by omega), m_ltr, b01]
          rw [show bA b n (tEnd b n q) = b (tEnd b n q) from if_pos (by omega)] at hend
          rw [if_neg (by rw [hend]; decide)]
          exact l146
      · rintro k p s hp ⟨g1, g2, g3, g4⟩ hk2
        unfold fX10_next_L103
        have hd := hall p g4 hp
        rw [show bA b n p = b p from if_pos (by omega)] at hd
        rw [g3 11 (by omega), f11, g1, if_neg (nI_ge (by omega) (by omega)), if_pos (ib_mk (by omega) (by omega)), nI_clamp (by omega), g2 9 (by omega), e9 _ (by omega), m_ltr, b01, if_pos hd, nI_1]
        exact hk2 _ ⟨by rw [m_own, u_s], fun a ha => by rw [m_row ha]; exact g2 a ha, fun j hj => by rw [m_own, u_n hj]; exact g3 j hj, by omega⟩
    · rw [if_neg cl]
      by_cases cd : dig (b q) = true
      · rw [if_pos cd]
        have hte : tEnd b n q = spn dig b n 160 (q + 1) := by unfold tEnd; rw [eb, if_neg cl, if_pos cd]
        have hall : ∀ j, q ≤ j → j < tEnd b n q → dig (bA b n j) = true := fun j j1 j2 => by
          by_cases e : j = q
          · subst e; rw [eb]; exact cd
          · rw [hte] at j2; exact spn_all 160 (q + 1) j (by omega) j2
        have hend : dig (bA b n (tEnd b n q)) = false := by rw [hte]; exact spn_end (by decide) 160 (q + 1) (by omega)
        have hk : tK b n q = if tEnd b n q - q ≤ 4 then 2 else 1 := by unfold tK; rw [if_neg (by omega), if_pos cd]
        refine lp_u0 (body := fX10_next_L230) (tEnd b n q - q) (fun k z => ∃ Y : hMem, z = (nI k, Y) ∧ Y 0 25 = nI (q + k) ∧ (∀ a, a ≠ 0 → Y a = S1 a) ∧ (∀ j, j ≠ 25 → j ≠ 28 → Y 0 j = S1 0 j) ∧ (k ≤ 4 → Y 0 28 = decS b q k)) _ (0, S1) ⟨S1, rfl, f25, fun _ _ => rfl, fun _ _ _ => rfl, fun _ => f28⟩ (by omega) ?_ ?_
        · rintro k z ⟨Y, rfl, g1, g2, g3, g4⟩
          have l309 : ∃ r, fX10_next_L309 (nI (tEnd b n q - q)) Y = some r ∧ pTok b n q S r := by
            have fin : ∀ t, t = mK (tK b n q) → pTok b n q S (h_up Y 0 27 t) := fun t ht => by
              refine ⟨fun a ha => ?_, fun j hj => ?_, ?_, ?_, ?_, fun hh => ?_, fun g hg hh => ?_⟩
              · rw [m_row ha, g2 a ha]; exact f1 a ha
              · rw [m_own, u_n (by omega), g3 j (by omega) (by omega)]; exact f2 j hj
              · rw [m_own, u_n (by omega), g3 26 (by omega) (by omega)]; exact f26
              · rw [m_own, u_n (by omega), g1, show q + (tEnd b n q - q) = tEnd b n q from by omega]
              · rw [m_own, u_s]; exact ht
              · rw [m_own, u_n (by omega)]
                by_cases c : tEnd b n q - q ≤ 4
                · have e2 : tK b n q = 2 := by rw [hk, if_pos c]
                  rw [g4 c]
                  unfold tV
                  rw [e2, if_neg (by decide), if_pos rfl]
                · rw [hk, if_neg c] at hh
                  exact absurd hh (by decide)
              · rw [hk] at hh
                by_cases c : tEnd b n q - q ≤ 4
                · rw [if_pos c] at hh; exact absurd hh (show ¬ nI 2 = nI (4 + g) from nI_neq _ (by omega) (by omega) (by omega))
                · rw [if_neg c] at hh; exact absurd hh (show ¬ nI 1 = nI (4 + g) from nI_neq _ (by omega) (by omega) (by omega))
            unfold fX10_next_L309
            by_cases c : tEnd b n q - q ≤ 4
            · rw [if_pos (show nI (tEnd b n q - q) ≤ (4 : Int32) from nI_le (b := 4) c (by decide))]
              exact ⟨_, rfl, fin 1 (by rw [hk, if_pos c]; rfl)⟩
            · rw [if_neg (show ¬ nI (tEnd b n q - q) ≤ (4 : Int32) from nI_ge (a := 4) (by omega) (by omega))]
              exact ⟨_, rfl, fin (-1) (by rw [hk, if_neg c]; rfl)⟩
          unfold fX10_next_L230
          dsimp only
          simp only [show Y 0 11 = nI n from by rw [g3 11 (by omega) (by omega), f11], g1, show q + (tEnd b n q - q) = tEnd b n q from by omega, nI_clamp (show tEnd b n q < 2 ^ 31 by omega)]
          by_cases c : n ≤ tEnd b n q
          · rw [if_pos (nI_le c (by omega))]; exact l309
          · simp only [show Y 9 (tEnd b n q) = b (tEnd b n q) from by rw [g2 9 (by omega), e9 _ (by omega)], m_dig, b01]
            rw [if_neg (nI_ge (by omega) (by omega)), if_pos (ib_mk (by omega) (by omega))]
            rw [show bA b n (tEnd b n q) = b (tEnd b n q) from if_pos (by omega)] at hend
            rw [if_neg (by rw [hend]; decide)]
            exact l309
        · rintro k j z hj ⟨Y, rfl, g1, g2, g3, g4⟩ hk2
          have hd := hall (q + j) (by omega) (by omega)
          rw [show bA b n (q + j) = b (q + j) from if_pos (by omega)] at hd
          unfold fX10_next_L230 fX10_next_L290
          dsimp only
          have hib : h_ib (nI (q + j)) 160 := ib_mk (by omega) (by omega)
          simp only [show Y 0 11 = nI n from by rw [g3 11 (by omega) (by omega), f11], g1, nI_clamp (show q + j < 2 ^ 31 by omega), show Y 9 (q + j) = b (q + j) from by rw [g2 9 (by omega), e9 _ (by omega)], m_dig, b01, if_pos hd, if_pos hib, nI_1]
          rw [if_neg (nI_ge (by omega) (by omega))]
          have fin : ∀ t, (j + 1 ≤ 4 → t = decS b q (j + 1)) → ∃ r, k (nI (j + 1), h_up (h_up Y 0 28 t) 0 25 (((h_up Y 0 28 t) 0 25) + 1)) = some r ∧ pTok b n q S r := fun t ht => by
            refine hk2 _ ⟨_, rfl, ?_, fun a ha => ?_, fun i i1 i2 => ?_, fun hh => ?_⟩
            · rw [m_own, u_s, m_own, u_n (by omega), g1, nI_1]; rfl
            · rw [m_row ha, m_row ha]; exact g2 a ha
            · rw [m_own, u_n i1, m_own, u_n i2]; exact g3 i i1 i2
            · rw [m_own, u_n (by omega), m_own, u_s]; exact ht hh
          by_cases c : 4 ≤ j
          · rw [if_pos (show (4 : Int32) ≤ nI j from nI_le (a := 4) c (by omega))]
            exact fin 0 (fun h => absurd h (by omega))
          · rw [if_neg (show ¬ (4 : Int32) ≤ nI j from nI_ge (b := 4) (by omega) (by decide))]
            exact fin _ (fun _ => by rw [g4 (by omega), decS_s])
      · rw [if_neg cd]
        have hte : tEnd b n q = q + 1 := by unfold tEnd; rw [eb, if_neg cl, if_neg cd]; omega
        have hk : tK b n q = if sgn (b q) = true then b q else 1 := by unfold tK; rw [if_neg (by omega), if_neg cd, if_neg cl]
        unfold fX10_next_L374 fX10_next_L379
        have fin : ∀ s : Int32, b q = s → sgn s = true → mK s = s → ¬ (s = 2 ∨ s = 3) → (∀ g, g < 3 → ¬ s = nI (4 + g)) → ∃ r, some (h_up (h_up S1 0 27 (b q)) 0 25 (((h_up S1 0 27 (b q)) 0 25) + 1)) = some r ∧ pTok b n q S r := fun s e a1 a2 a3 a4 => by
          have hks : tK b n q = s := by rw [hk, e, if_pos a1]
          exact ⟨_, rfl, m_sign hlt hn f1 f2 f26 f25 hte (by rw [hks, a2, e]) (by rw [hks]; exact a3) (fun g hg => by rw [hks]; exact a4 g hg)⟩
        by_cases c1 : b q = 40
        · rw [if_pos c1]; exact fin 40 c1 (by decide) (by decide) (by decide) (by decide)
        rw [if_neg c1]
        by_cases c2 : b q = 41
        · rw [if_pos c2]; exact fin 41 c2 (by decide) (by decide) (by decide) (by decide)
        rw [if_neg c2]
        by_cases c3 : b q = 59
        · rw [if_pos c3]; exact fin 59 c3 (by decide) (by decide) (by decide) (by decide)
        rw [if_neg c3]
        by_cases c4 : b q = 43
        · rw [if_pos c4]; exact fin 43 c4 (by decide) (by decide) (by decide) (by decide)
        rw [if_neg c4]
        by_cases c5 : b q = 45
        · rw [if_pos c5]; exact fin 45 c5 (by decide) (by decide) (by decide) (by decide)
        rw [if_neg c5]
        by_cases c6 : b q = 42
        · rw [if_pos c6]; exact fin 42 c6 (by decide) (by decide) (by decide) (by decide)
        rw [if_neg c6]
        by_cases c7 : b q = 60
        · rw [if_pos c7]; exact fin 60 c7 (by decide) (by decide) (by decide) (by decide)
        rw [if_neg c7]
        by_cases c8 : b q = 61
        · rw [if_pos c8]; exact fin 61 c8 (by decide) (by decide) (by decide) (by decide)
        rw [if_neg c8]
        have hks : tK b n q = 1 := by
          rw [hk, if_neg]
          unfold sgn fX5_isSign
          rw [if_neg c1, if_neg c2, if_neg c3, if_neg c4, if_neg c5, if_neg c6, if_neg c7, if_neg c8]
          decide
        exact ⟨_, rfl, m_sign hlt hn f1 f2 f26 f25 hte (by rw [hks]; decide) (by rw [hks]; decide) (by rw [hks]; decide)⟩
/-- the other one's next token, from place p -/
theorem m_next {b : Nat → Int32} {n p : Nat} {M : hMem} (h : TXm b n M) (hb : ∀ i, i < 160 → h_ib (b i) 256) (hp : p ≤ n) (h25 : M 0 25 = nI p) : ∃ r, fX10_next M = some r ∧ pTok b n (spn blk b n 160 p) M r := by
  obtain ⟨hn, h1, h2, h3⟩ := h
  unfold fX10_next
  have hle := spn_le (c := blk) (by decide) (b := b) (n := n) 160 p hp
  have hall : ∀ j, p ≤ j → j < spn blk b n 160 p → blk (bA b n j) = true := fun j j1 j2 => spn_all 160 p j j1 j2
  have hend : blk (bA b n (spn blk b n 160 p)) = false := spn_end (by decide) 160 p (by omega)
  generalize spn blk b n 160 p = q at hle hall hend ⊢
  refine lp_up (body := fX10_next_L0) q (fun i s => s 0 25 = nI i ∧ (∀ a, a ≠ 0 → s a = M a) ∧ (∀ j, j ≠ 25 → s 0 j = M 0 j) ∧ p ≤ i) _ ?_ ?_ h_FU p M hle.1 ⟨h25, fun _ _ => rfl, fun _ _ => rfl, Nat.le_refl _⟩ (by unfold h_FU; omega)
  · rintro k s ⟨g1, g2, g3, -⟩
    have l52 : ∃ r, fX10_next_L52 s = some r ∧ pTok b n q M r := by
      obtain ⟨r, r1, r2, r3, r4⟩ := m_52 (S := s) ⟨hn, by rw [g3 11 (by omega)]; exact h1, fun i hi => by rw [g2 9 (by omega)]; exact h2 i hi, fun i hi => by rw [g2 17 (by omega)]; exact h3 i hi⟩ hb hle.2 g1
      exact ⟨r, r1, fun a ha => (r2 a ha).trans (g2 a ha), fun j hj => (r3 j hj).trans (g3 j (by omega)), r4⟩
    unfold fX10_next_L0
    simp only [show s 0 11 = nI n from by rw [g3 11 (by omega), h1], g1, nI_clamp (show q < 2 ^ 31 by omega)]
    by_cases c : n ≤ q
    · rw [if_pos (nI_le c (by omega))]; exact l52
    · simp only [show s 9 q = b q from by rw [g2 9 (by omega), h2 _ (by omega)]]
      rw [if_neg (nI_ge (by omega) (by omega)), if_pos (ib_mk (by omega) (by omega))]
      rw [show bA b n q = b q from if_pos (by omega)] at hend
      unfold blk at hend
      rw [Bool.or_eq_false_iff, decide_eq_false_iff_not, decide_eq_false_iff_not] at hend
      rw [if_neg hend.1, if_pos (ib_mk (by omega) (by omega)), if_neg hend.2]
      exact l52
  · rintro k i s hi ⟨g1, g2, g3, g4⟩ hk
    have hd := hall i g4 hi
    rw [show bA b n i = b i from if_pos (by omega)] at hd
    unfold blk at hd
    rw [Bool.or_eq_true, decide_eq_true_eq, decide_eq_true_eq] at hd
    unfold fX10_next_L0 fX10_next_L39
    simp only [show s 0 11 = nI n from by rw [g3 11 (by omega), h1], g1, nI_clamp (show i < 2 ^ 31 by omega), show s 9 i = b i from by rw [g2 9 (by omega), h2 _ (by omega)], nI_1]
    rw [if_neg (nI_ge (by omega) (by omega)), if_pos (ib_mk (by omega) (by omega))]
    have fin : ∃ r, k (h_up s 0 25 (nI (i + 1))) = some r ∧ pTok b n q M r := hk _ ⟨by rw [m_own, u_s], fun a ha => by rw [m_row ha]; exact g2 a ha, fun j hj => by rw [m_own, u_n hj]; exact g3 j hj, by omega⟩
    by_cases c : b i = 32
    · rw [if_pos c]; exact fin
    · rw [if_neg c, if_pos (ib_mk (by omega) (by omega)), if_pos (hd.elim (fun q => absurd q c) id)]; exact fin
end
section
/-! TEXT: the grammar, a spec parser; x's small steps -/
def lpS (K : Nat → Int32) (g : Nat → Except Nat (List Int32 × Nat)) (op : Int32 → Option Int32) : Nat → List Int32 × Nat → Except Nat (List Int32 × Nat)
  | 0, s => .ok s
  | m + 1, s => match op (K s.2) with | none => .ok s | some o => (match g (s.2 + 1) with | .error e => .error e | .ok r => lpS K g op m (s.1 ++ r.1 ++ [o], r.2))
theorem lpS_s (K : Nat → Int32) (g : Nat → Except Nat (List Int32 × Nat)) (op : Int32 → Option Int32) (m : Nat) (s : List Int32 × Nat) : lpS K g op (m + 1) s = (match op (K s.2) with | none => .ok s | some o => (match g (s.2 + 1) with | .error e => .error e | .ok r => lpS K g op m (s.1 ++ r.1 ++ [o], r.2))) := rfl
def opOr (v : Int32) : Option Int32 := if v = 7 then some (-11) else none
def opAnd (v : Int32) : Option Int32 := if v = 8 then some (-12) else none
def opCmp (v : Int32) : Option Int32 := if v = 60 then some (-14) else if v = 61 then some (-15) else none
def opSum (v : Int32) : Option Int32 := if v = 43 then some (-16) else if v = 45 then some (-17) else none
def opMul (v : Int32) : Option Int32 := if v = 42 then some (-18) else none
/-- levels 0 or, 1 and, 2 not, 3 sum, 4 product, 5 one; d deep, from token k -/
def prs (K V : Nat → Int32) : Nat → Nat → Nat → Nat → Except Nat (List Int32 × Nat)
  | 0, _, _, k => .error k
  | f + 1, lv, d, k => match lv with
    | 0 => (match prs K V f 1 d k with | .error e => .error e | .ok s => lpS K (prs K V f 1 d) opOr 160 s)
    | 1 => (match prs K V f 2 d k with | .error e => .error e | .ok s => lpS K (prs K V f 2 d) opAnd 160 s)
    | 2 => if K k = 9 ∧ d < 5 then (match prs K V f 2 (d + 1) (k + 1) with | .error e => .error e | .ok s => .ok (s.1 ++ [-13], s.2))
        else (match prs K V f 3 d k with | .error e => .error e | .ok s => lpS K (prs K V f 3 d) opCmp 1 s)
    | 3 => (match prs K V f 4 d k with | .error e => .error e | .ok s => lpS K (prs K V f 4 d) opSum 160 s)
    | 4 => (match prs K V f 5 d k with | .error e => .error e | .ok s => lpS K (prs K V f 5 d) opMul 160 s)
    | _ => if K k = 2 then .ok ([V k], k + 1) else if K k = 3 then .ok ([-1 - V k], k + 1)
        else if K k = 45 ∧ d < 5 then (match prs K V f 5 (d + 1) (k + 1) with | .error e => .error e | .ok s => .ok (s.1 ++ [-19], s.2))
        else if K k = 40 ∧ d < 5 then (match prs K V f 0 (d + 1) (k + 1) with | .error e => .error e | .ok s => if K s.2 = 41 then .ok (s.1, s.2 + 1) else .error s.2)
        else .error k
/-- the rows of tokens stand up to the last one E, the rest as in Y0 -/
def XR (T E : Nat) (K V : Nat → Int32) (P : Nat → Nat) (Y0 Y : hMem) : Prop := (∀ k, k ≤ E → Y 32 k = K k) ∧ (∀ k, k ≤ E → Y 33 k = nI (P k)) ∧ (∀ k, k ≤ E → Y 34 k = V k) ∧ Y 30 8 = nI (56 + 4 * T) ∧ (∀ a, a ≠ 30 → a ≠ 56 + 4 * T → a ≠ 57 + 4 * T → Y a = Y0 a) ∧ Y 30 0 = Y0 30 0
/-- x reads on: at token k, this code -/
def XS (T E : Nat) (K V : Nat → Int32) (P : Nat → Nat) (Y0 : hMem) (k : Nat) (c : List Int32) (Y : hMem) : Prop := XR T E K V P Y0 Y ∧ Y 30 5 = nI k ∧ Y 30 6 = K k ∧ Y 30 7 = -1 ∧ k ≤ E ∧ Y (56 + 4 * T) 3 = nI c.length ∧ ∀ i, i < c.length → Y (57 + 4 * T) i = c.getD i 0
/-- x has met a fault at token kf -/
def XF (T E : Nat) (K V : Nat → Int32) (P : Nat → Nat) (Y0 : hMem) (kf : Nat) (Y : hMem) : Prop := XR T E K V P Y0 Y ∧ Y 30 6 = 1 ∧ Y 30 7 = nI (P kf) ∧ ∃ c, c ≤ 160 ∧ Y (56 + 4 * T) 3 = nI c
theorem tx_isB {T : Nat} (hT : T < 6) : h_isB hYx (56 + 4 * T) 3 0 = true := h_forall (N := 6) (p := fun T => h_isB hYx (56 + 4 * T) 3 0) (by decide +kernel) hT
theorem XS.adv {T E k : Nat} {K V : Nat → Int32} {P : Nat → Nat} {Y0 Y : hMem} {c : List Int32} (hT : T < 6) (hE : E ≤ 160) (h : XS T E K V P Y0 k c Y) (hk : k < E) : ∃ Y', fX5_advance Y = some Y' ∧ XS T E K V P Y0 (k + 1) c Y' := by
  obtain ⟨⟨r1, r2, r3, r4, r5, r6⟩, h5, h6, h7, hk2, hc, hw⟩ := h
  unfold fX5_advance
  simp only [h5]
  rw [if_neg (show ¬ (160 : Int32) ≤ nI k from nI_ge (b := 160) (by omega) (by decide)), nI_1]
  simp only [m_own, u_s]
  rw [if_pos (ib_mk (by omega) (by omega)), nI_clamp (by omega)]
  refine ⟨_, rfl, ⟨?_, ?_, ?_, ?_, ?_, ?_⟩, ?_, ?_, ?_, by omega, ?_, ?_⟩
  · intro j hj; simp (disch := omega) only [m_row]; exact r1 j hj
  · intro j hj; simp (disch := omega) only [m_row]; exact r2 j hj
  · intro j hj; simp (disch := omega) only [m_row]; exact r3 j hj
  · simp (disch := omega) only [m_own, u_n]; exact r4
  · intro a a1 a2 a3; simp (disch := omega) only [m_row]; exact r5 a a1 a2 a3
  · simp (disch := omega) only [m_own, u_n]; exact r6
  · simp (disch := omega) only [m_own, u_n, u_s]
  · simp (disch := omega) only [m_row, m_own, u_s]; exact r1 (k + 1) (by omega)
  · simp (disch := omega) only [m_own, u_n]; exact h7
  · simp (disch := omega) only [m_row]; exact hc
  · intro i hi; simp (disch := omega) only [m_row]; exact hw i hi
theorem XS.ref {T E k : Nat} {K V : Nat → Int32} {P : Nat → Nat} {Y0 Y : hMem} {c : List Int32} (hT : T < 6) (hE : E ≤ 160) (h : XS T E K V P Y0 k c Y) (hl : c.length ≤ 160) : ∃ Y', fX5_refuse Y = some Y' ∧ XF T E K V P Y0 k Y' := by
  obtain ⟨⟨r1, r2, r3, r4, r5, r6⟩, h5, h6, h7, hk2, hc, hw⟩ := h
  unfold fX5_refuse
  simp only [h5, h7]
  rw [if_neg (show ¬ (0 : Int32) ≤ -1 from by decide), if_pos (ib_mk (by omega) (by omega)), nI_clamp (by omega), r2 k hk2]
  refine ⟨_, rfl, ⟨?_, ?_, ?_, ?_, ?_, ?_⟩, ?_, ?_, c.length, by omega, ?_⟩
  · intro j hj; simp (disch := omega) only [m_row]; exact r1 j hj
  · intro j hj; simp (disch := omega) only [m_row]; exact r2 j hj
  · intro j hj; simp (disch := omega) only [m_row]; exact r3 j hj
  · simp (disch := omega) only [m_own, u_n]; exact r4
  · intro a a1 a2 a3; simp (disch := omega) only [m_row]; exact r5 a a1 a2 a3
  · simp (disch := omega) only [m_own, u_n]; exact r6
  · simp (disch := omega) only [m_own, u_s]
  · simp (disch := omega) only [m_own, u_n, u_s]
  · simp (disch := omega) only [m_row]; exact hc
theorem XF.ref {T E kf : Nat} {K V : Nat → Int32} {P : Nat → Nat} {Y0 Y : hMem} (hT : T < 6) (hP : P kf < 2 ^ 31) (h : XF T E K V P Y0 kf Y) : ∃ Y', fX5_refuse Y = some Y' ∧ XF T E K V P Y0 kf Y' := by
  obtain ⟨⟨r1, r2, r3, r4, r5, r6⟩, h6, h7, c, c1, hc⟩ := h
  unfold fX5_refuse
  simp only [h7]
  rw [if_pos (show (0 : Int32) ≤ nI (P kf) from nI_pos' hP)]
  refine ⟨_, rfl, ⟨?_, ?_, ?_, ?_, ?_, ?_⟩, ?_, ?_, c, c1, ?_⟩
  · intro j hj; simp (disch := omega) only [m_row]; exact r1 j hj
  · intro j hj; simp (disch := omega) only [m_row]; exact r2 j hj
  · intro j hj; simp (disch := omega) only [m_row]; exact r3 j hj
  · simp (disch := omega) only [m_own, u_n]; exact r4
  · intro a a1 a2 a3; simp (disch := omega) only [m_row]; exact r5 a a1 a2 a3
  · simp (disch := omega) only [m_own, u_n]; exact r6
  · simp (disch := omega) only [m_own, u_s]
  · simp (disch := omega) only [m_own, u_n]; exact h7
  · simp (disch := omega) only [m_row]; exact hc
theorem getD_app {c : List Int32} {w : Int32} {i : Nat} : (c ++ [w]).getD i 0 = if i < c.length then c.getD i 0 else if i = c.length then w else 0 := by
  rw [List.getD_eq_getElem?_getD, List.getD_eq_getElem?_getD]
  by_cases h : i < c.length
  · rw [if_pos h, List.getElem?_append_left h]
  · rw [if_neg h, List.getElem?_append_right (by omega)]
    by_cases e : i = c.length
    · subst e; rw [Nat.sub_self, if_pos rfl]; rfl
    · rw [if_neg e]
      obtain ⟨j, hj⟩ : ∃ j, i - c.length = j + 1 := ⟨i - c.length - 1, by omega⟩
      rw [hj]; rfl
theorem XS.add {T E k : Nat} {K V : Nat → Int32} {P : Nat → Nat} {Y0 Y : hMem} {c : List Int32} (hT : T < 6) (h : XS T E K V P Y0 k c Y) (hl : c.length < 160) (w : Int32) : ∃ Y', fX4_add (56 + 4 * T) w Y = some Y' ∧ XS T E K V P Y0 k (c ++ [w]) Y' := by
  obtain ⟨⟨r1, r2, r3, r4, r5, r6⟩, h5, h6, h7, hk2, hc, hw⟩ := h
  have e1 : 56 + 4 * T + 1 = 57 + 4 * T := by omega
  unfold fX4_add
  rw [if_pos (tx_isB hT), hc, if_neg (show ¬ (160 : Int32) ≤ nI c.length from nI_ge (b := 160) hl (by decide)), if_pos (ib_mk hl (by decide)), nI_clamp (by omega), e1]
  simp (disch := omega) only [m_row]
  rw [hc, nI_1]
  refine ⟨_, rfl, ⟨?_, ?_, ?_, ?_, ?_, ?_⟩, ?_, ?_, ?_, hk2, ?_, ?_⟩
  · intro j hj; simp (disch := omega) only [m_row]; exact r1 j hj
  · intro j hj; simp (disch := omega) only [m_row]; exact r2 j hj
  · intro j hj; simp (disch := omega) only [m_row]; exact r3 j hj
  · simp (disch := omega) only [m_row]; exact r4
  · intro a a1 a2 a3; simp (disch := omega) only [m_row]; exact r5 a a1 a2 a3
  · simp (disch := omega) only [m_row]; exact r6
  · simp (disch := omega) only [m_row]; exact h5
  · simp (disch := omega) only [m_row]; exact h6
  · simp (disch := omega) only [m_row]; exact h7
  · simp (disch := omega) only [m_own, u_s]; rw [List.length_append]; rfl
  · intro i hi
    rw [List.length_append] at hi
    have hi' : i < c.length + 1 := hi
    simp (disch := omega) only [m_row, m_own]
    rw [getD_app, u_e]
    by_cases e : i = c.length
    · rw [if_pos e, if_neg (by omega), if_pos e]
    · rw [if_neg e, if_pos (by omega)]; exact hw i (by omega)
theorem XF.add {T E kf : Nat} {K V : Nat → Int32} {P : Nat → Nat} {Y0 Y : hMem} (hT : T < 6) (h : XF T E K V P Y0 kf Y) (w : Int32) : ∃ Y', fX4_add (56 + 4 * T) w Y = some Y' ∧ XF T E K V P Y0 kf Y' := by
  obtain ⟨⟨r1, r2, r3, r4, r5, r6⟩, h6, h7, c, c1, hc⟩ := h
  have e1 : 56 + 4 * T + 1 = 57 + 4 * T := by omega
  unfold fX4_add
  rw [if_pos (tx_isB hT), hc]
  by_cases hl : c < 160
  · rw [if_neg (show ¬ (160 : Int32) ≤ nI c from nI_ge (b := 160) hl (by decide)), if_pos (ib_mk hl (by decide)), nI_clamp (by omega), e1]
    simp (disch := omega) only [m_row]
    rw [hc, nI_1]
    refine ⟨_, rfl, ⟨?_, ?_, ?_, ?_, ?_, ?_⟩, ?_, ?_, c + 1, by omega, ?_⟩
    · intro j hj; simp (disch := omega) only [m_row]; exact r1 j hj
    · intro j hj; simp (disch := omega) only [m_row]; exact r2 j hj
    · intro j hj; simp (disch := omega) only [m_row]; exact r3 j hj
    · simp (disch := omega) only [m_row]; exact r4
    · intro a a1 a2 a3; simp (disch := omega) only [m_row]; exact r5 a a1 a2 a3
    · simp (disch := omega) only [m_row]; exact r6
    · simp (disch := omega) only [m_row]; exact h6
    · simp (disch := omega) only [m_row]; exact h7
    · simp (disch := omega) only [m_own, u_s]
  · rw [if_pos (show (160 : Int32) ≤ nI c from nI_le (a := 160) (by omega) (by omega))]
    exact ⟨Y, rfl, ⟨r1, r2, r3, r4, r5, r6⟩, h6, h7, c, c1, hc⟩
end
section
/-! TEXT: x reads one -/
def outX (T E : Nat) (K V : Nat → Int32) (P : Nat → Nat) (Y0 : hMem) (k0 : Nat) (c : List Int32) (res : Except Nat (List Int32 × Nat)) (Y : hMem) : Prop := (∀ s, res = .ok s → XS T E K V P Y0 s.2 (c ++ s.1) Y ∧ k0 + s.1.length ≤ s.2) ∧ ∀ kf, res = .error kf → XF T E K V P Y0 kf Y ∧ kf ≤ E
theorem outX.ok {T E : Nat} {K V : Nat → Int32} {P : Nat → Nat} {Y0 Y : hMem} {c w : List Int32} {k0 k : Nat} (h : XS T E K V P Y0 k (c ++ w) Y) (h2 : k0 + w.length ≤ k) : outX T E K V P Y0 k0 c (.ok (w, k)) Y := ⟨fun s e => (by cases e; exact ⟨h, h2⟩), fun kf e => (by cases e)⟩
theorem outX.bad {T E : Nat} {K V : Nat → Int32} {P : Nat → Nat} {Y0 Y : hMem} {c : List Int32} {k0 k : Nat} (h : XF T E K V P Y0 k Y) (h2 : k ≤ E) : outX T E K V P Y0 k0 c (.error k) Y := ⟨fun s e => (by cases e), fun kf e => (by cases e; exact ⟨h, h2⟩)⟩
def tkE (E : Nat) (K : Nat → Int32) : Prop := E ≤ 160 ∧ (K E = 0 ∨ K E = 1)
theorem tkE.lt {E k : Nat} {K : Nat → Int32} (h : tkE E K) (hk : k ≤ E) (h0 : K k ≠ 0) (h1 : K k ≠ 1) : k < E := by
  rcases Nat.lt_or_ge k E with q | q
  · exact q
  · have : k = E := by omega
    subst this
    exact absurd h.2 (fun q => q.elim h0 h1)
def HRC (T E : Nat) (K V : Nat → Int32) (P : Nat → Nat) (Y0 : hMem) (f : Nat) (rc : Nat → Int32 → hMem → Option hMem) : Prop := ∀ lv d k c Y, lv ≤ 5 → d ≤ 5 → 6 * (5 - d) + (6 - lv) ≤ f → XS T E K V P Y0 k c Y → c.length ≤ k → ∃ Y', rc lv (nI d) Y = some Y' ∧ outX T E K V P Y0 k c (prs K V f lv d k) Y'
theorem x_one {T E f d k : Nat} {K V : Nat → Int32} {P : Nat → Nat} {Y0 Y : hMem} {c : List Int32} {rc : Nat → Int32 → hMem → Option hMem} (hT : T < 6) (hE : tkE E K) (hP : ∀ k, P k < 2 ^ 31) (H : HRC T E K V P Y0 f rc) (hd : d ≤ 5) (hf : 6 * (5 - d) + 1 ≤ f + 1) (h : XS T E K V P Y0 k c Y) (hl : c.length ≤ k) : ∃ Y', fX5_readOne rc (nI d) Y = some Y' ∧ outX T E K V P Y0 k c (prs K V (f + 1) 5 d k) Y' := by
  obtain ⟨hr, h5, h6, h7, hk, hc, hw⟩ := id h
  have h8 : Y 30 8 = nI (56 + 4 * T) := hr.2.2.2.1
  have h34 : Y 34 k = V k := hr.2.2.1 k hk
  have hE160 := hE.1
  have bad : ∃ Y', ((fX5_refuse Y).bind fun q134 => some q134) = some Y' ∧ outX T E K V P Y0 k c (.error k) Y' := by
    obtain ⟨Y', y1, y2⟩ := h.ref hT hE160 (by omega)
    exact ⟨Y', by rw [y1, Option.bind_some], outX.bad y2 hk⟩
  have one : ∀ w, K k ≠ 0 → K k ≠ 1 → ∃ Y', (fX4_add (56 + 4 * T) w Y).bind (fun q => (fX5_advance q).bind fun q25 => some q25) = some Y' ∧ outX T E K V P Y0 k c (.ok ([w], k + 1)) Y' := fun w n0 n1 => by
    have hlt := hE.lt hk n0 n1
    obtain ⟨Y1, a1, a2⟩ := h.add hT (by omega) w
    obtain ⟨Y2, b1, b2⟩ := a2.adv hT hE160 hlt
    exact ⟨Y2, by rw [a1, Option.bind_some, b1, Option.bind_some], outX.ok b2 (Nat.le_refl _)⟩
  have lit : ∀ m : Int32, K k = m → m ≠ 0 → m ≠ 1 → K k ≠ 0 ∧ K k ≠ 1 := fun m e n0 n1 => ⟨by rw [e]; exact n0, by rw [e]; exact n1⟩
  have hlim : (5 ≤ nI d) ↔ ¬ d < 5 := by
    constructor
    · intro q e; exact nI_ge (b := 5) e (by decide) q
    · intro q; exact nI_le (a := 5) (by omega) (by omega)
  show ∃ Y', _ ∧ outX T E K V P Y0 k c (if K k = 2 then .ok ([V k], k + 1) else if K k = 3 then .ok ([-1 - V k], k + 1)
        else if K k = 45 ∧ d < 5 then (match prs K V f 5 (d + 1) (k + 1) with | .error e => .error e | .ok s => .ok (s.1 ++ [-19], s.2))
        else if K k = 40 ∧ d < 5 then (match prs K V f 0 (d + 1) (k + 1) with | .error e => .error e | .ok s => if K s.2 = 41 then .ok (s.1, s.2 + 1) else .error s.2)
        else .error k) Y'
  unfold fX5_readOne fX4_addName
  simp only [h5, h6, h8, nI_clamp (show 56 + 4 * T < 2 ^ 31 by omega), nI_clamp (show k < 2 ^ 31 by omega), if_pos (tx_isB hT), if_pos (show h_ib (nI k) 161 from ib_mk (by omega) (by omega)), h34]
  by_cases c2 : K k = 2
  · obtain ⟨n0, n1⟩ := lit 2 c2 (by decide) (by decide)
    rw [if_pos c2, if_pos c2]; exact one _ n0 n1
  rw [if_neg c2, if_neg c2]
  by_cases c3 : K k = 3
  · obtain ⟨n0, n1⟩ := lit 3 c3 (by decide) (by decide)
    rw [if_pos c3, if_pos c3]
    obtain ⟨Y', y1, y2⟩ := one (-1 - V k) n0 n1
    refine ⟨Y', ?_, y2⟩
    rw [← y1]
    cases fX4_add (56 + 4 * T) (-1 - V k) Y <;> rfl
  rw [if_neg c3, if_neg c3]
  have l99 : ∃ Y', fX5_readOne_L99 rc (nI d) Y = some Y' ∧ outX T E K V P Y0 k c (if K k = 40 ∧ d < 5 then (match prs K V f 0 (d + 1) (k + 1) with | .error e => .error e | .ok s => if K s.2 = 41 then .ok (s.1, s.2 + 1) else .error s.2) else .error k) Y' := by
    unfold fX5_readOne_L99
    simp only [h6]
    by_cases c40 : K k = 40
    · rw [if_pos c40]
      by_cases d5 : d < 5
      · rw [if_neg (fun q => hlim.mp q d5), if_pos ⟨c40, d5⟩]
        obtain ⟨n0, n1⟩ := lit 40 c40 (by decide) (by decide)
        obtain ⟨Y1, a1, a2⟩ := h.adv hT hE160 (hE.lt hk n0 n1)
        obtain ⟨Y2, b1, b2⟩ := H 0 (d + 1) (k + 1) c Y1 (by omega) (by omega) (by omega) a2 (by omega)
        rw [a1, Option.bind_some, nI_1, b1, Option.bind_some]
        unfold fX5_expect
        cases hres : prs K V f 0 (d + 1) (k + 1) with
        | error kf =>
          obtain ⟨x1, x2⟩ := b2.2 kf hres
          obtain ⟨Y3, e1, e2⟩ := x1.ref hT (hP kf)
          rw [if_neg (by rw [x1.2.1]; decide), e1, Option.bind_some, Option.bind_some]
          exact ⟨Y3, rfl, outX.bad e2 x2⟩
        | ok s =>
          obtain ⟨x1, x2⟩ := b2.1 s hres
          have hs := x1.2.2.2.2.1
          have hK := x1.2.2.1
          dsimp only
          by_cases c41 : K s.2 = 41
          · have hlt := hE.lt hs (by rw [c41]; decide) (by rw [c41]; decide)
            obtain ⟨Y3, e1, e2⟩ := x1.adv hT hE160 hlt
            rw [if_pos c41, if_pos (by rw [hK]; exact c41), e1, Option.bind_some, Option.bind_some]
            exact ⟨Y3, rfl, outX.ok e2 (by omega)⟩
          · obtain ⟨Y3, e1, e2⟩ := x1.ref hT hE160 (by rw [List.length_append]; omega)
            rw [if_neg c41, if_neg (by rw [hK]; exact c41), e1, Option.bind_some, Option.bind_some]
            exact ⟨Y3, rfl, outX.bad e2 hs⟩
      · rw [if_pos (hlim.mpr d5), if_neg (fun q => d5 q.2)]; exact bad
    · rw [if_neg c40, if_neg (fun q => c40 q.1)]; exact bad
  by_cases c45 : K k = 45
  · rw [if_pos c45]
    by_cases d5 : d < 5
    · rw [if_neg (fun q => hlim.mp q d5), if_pos ⟨c45, d5⟩]
      obtain ⟨n0, n1⟩ := lit 45 c45 (by decide) (by decide)
      obtain ⟨Y1, a1, a2⟩ := h.adv hT hE160 (hE.lt hk n0 n1)
      obtain ⟨Y2, b1, b2⟩ := H 5 (d + 1) (k + 1) c Y1 (by omega) (by omega) (by omega) a2 (by omega)
      rw [a1, Option.bind_some, nI_1, b1, Option.bind_some]
      cases hres : prs K V f 5 (d + 1) (k + 1) with
      | error kf =>
        obtain ⟨x1, x2⟩ := b2.2 kf hres
        obtain ⟨Y3, e1, e2⟩ := x1.add hT (-19)
        rw [show Y2 30 8 = nI (56 + 4 * T) from x1.1.2.2.2.1, nI_clamp (by omega), if_pos (tx_isB hT), e1, Option.bind_some]
        exact ⟨Y3, rfl, outX.bad e2 x2⟩
      | ok s =>
        obtain ⟨x1, x2⟩ := b2.1 s hres
        have hs := x1.2.2.2.2.1
        obtain ⟨Y3, e1, e2⟩ := x1.add hT (by rw [List.length_append]; omega) (-19)
        rw [show Y2 30 8 = nI (56 + 4 * T) from x1.1.2.2.2.1, nI_clamp (by omega), if_pos (tx_isB hT), e1, Option.bind_some]
        rw [List.append_assoc] at e2
        exact ⟨Y3, rfl, outX.ok e2 (by rw [List.length_append]; show k + (s.1.length + 1) ≤ s.2; omega)⟩
    · rw [if_pos (hlim.mpr d5), if_neg (fun q => d5 q.2)]; exact l99
  · rw [if_neg c45, if_neg (fun q => c45 q.1)]; exact l99
end
section
/-! TEXT: x's levels -/
theorem x_loop {T E f d lv k0 : Nat} {K V : Nat → Int32} {P : Nat → Nat} {Y0 : hMem} {c : List Int32} {rc : Nat → Int32 → hMem → Option hMem} {op : Int32 → Option Int32} {body : (Int32 × hMem → Option hMem) → Int32 × hMem → Option hMem} (hT : T < 6) (hE : tkE E K) (H : HRC T E K V P Y0 f rc) (hlv : lv ≤ 5) (hd : d ≤ 5) (hf : 6 * (5 - d) + (6 - lv) ≤ f) (hc : c.length ≤ k0) (o0 : op 0 = none) (o1 : op 1 = none) (hb : ∀ kk i Y, i < 160 → body kk (nI i, Y) = (match op (Y 30 6) with | none => some Y | some o => (fX5_advance Y).bind fun q => (rc lv (nI d) q).bind fun q29 => if h_isB hYx (q29 30 8).toNatClampNeg 3 0 = true then (fX4_add ((q29 30 8).toNatClampNeg) o q29).bind fun q38 => kk (nI (i + 1), q38) else none)) (hb2 : ∀ kk Y, body kk (nI 160, Y) = some Y) : ∀ (m fuel i : Nat) (s : List Int32 × Nat) (Y : hMem), i + m = 160 → m < fuel → XS T E K V P Y0 s.2 (c ++ s.1) Y → k0 + s.1.length ≤ s.2 → ∃ Y', h_lp body fuel (nI i, Y) = some Y' ∧ outX T E K V P Y0 k0 c (lpS K (prs K V f lv d) op m s) Y' := by
  intro m
  induction m with
  | zero =>
    intro fuel i s Y hi hfu hS hl
    obtain ⟨g, rfl⟩ : ∃ g, fuel = g + 1 := ⟨fuel - 1, by omega⟩
    have : i = 160 := by omega
    subst this
    rw [lp_s, hb2]
    exact ⟨Y, rfl, outX.ok hS hl⟩
  | succ m ih =>
    intro fuel i s Y hi hfu hS hl
    obtain ⟨g, rfl⟩ : ∃ g, fuel = g + 1 := ⟨fuel - 1, by omega⟩
    have hE160 := hE.1
    have hk := hS.2.2.2.2.1
    rw [lp_s, hb _ i Y (by omega), hS.2.2.1, lpS_s]
    cases ho : op (K s.2) with
    | none => exact ⟨Y, rfl, outX.ok hS hl⟩
    | some o =>
      dsimp only
      have n0 : K s.2 ≠ 0 := fun q => by rw [q, o0] at ho; cases ho
      have n1 : K s.2 ≠ 1 := fun q => by rw [q, o1] at ho; cases ho
      obtain ⟨Y1, a1, a2⟩ := hS.adv hT hE160 (hE.lt hk n0 n1)
      obtain ⟨Y2, b1, b2⟩ := H lv d (s.2 + 1) (c ++ s.1) Y1 hlv hd hf a2 (by rw [List.length_append]; omega)
      rw [a1, Option.bind_some, b1, Option.bind_some]
      cases hres : prs K V f lv d (s.2 + 1) with
      | error kf =>
        obtain ⟨x1, x2⟩ := b2.2 kf hres
        obtain ⟨Y3, e1, e2⟩ := x1.add hT o
        rw [show Y2 30 8 = nI (56 + 4 * T) from x1.1.2.2.2.1, nI_clamp (by omega), if_pos (tx_isB hT), e1, Option.bind_some]
        obtain ⟨g', rfl⟩ : ∃ g', g = g' + 1 := ⟨g - 1, by omega⟩
        refine ⟨Y3, ?_, outX.bad e2 x2⟩
        rw [lp_s]
        by_cases h160 : i + 1 = 160
        · rw [h160, hb2]
        · rw [hb _ (i + 1) Y3 (by omega), e2.2.1, o1]
      | ok r =>
        obtain ⟨x1, x2⟩ := b2.1 r hres
        have hs := x1.2.2.2.2.1
        obtain ⟨Y3, e1, e2⟩ := x1.add hT (by rw [List.length_append, List.length_append]; omega) o
        rw [show Y2 30 8 = nI (56 + 4 * T) from x1.1.2.2.2.1, nI_clamp (by omega), if_pos (tx_isB hT), e1, Option.bind_some]
        dsimp only
        refine ih g (i + 1) (s.1 ++ r.1 ++ [o], r.2) Y3 (by omega) (by omega) ?_ ?_
        · rw [List.append_assoc, List.append_assoc] at e2
          rw [List.append_assoc]
          exact e2
        · rw [List.length_append, List.length_append]
          show k0 + (s.1.length + r.1.length + 1) ≤ r.2
          omega
/-- a level that is a loop behind a first operand -/
theorem x_level {T E f d lv k : Nat} {K V : Nat → Int32} {P : Nat → Nat} {Y0 Y : hMem} {c : List Int32} {rc : Nat → Int32 → hMem → Option hMem} {op : Int32 → Option Int32} {body : (Int32 × hMem → Option hMem) → Int32 × hMem → Option hMem} (hT : T < 6) (hE : tkE E K) (H : HRC T E K V P Y0 f rc) (hlv : lv ≤ 5) (hd : d ≤ 5) (hf : 6 * (5 - d) + (6 - lv) ≤ f) (o0 : op 0 = none) (o1 : op 1 = none) (hb : ∀ kk i Y, i < 160 → body kk (nI i, Y) = (match op (Y 30 6) with | none => some Y | some o => (fX5_advance Y).bind fun q => (rc lv (nI d) q).bind fun q29 => if h_isB hYx (q29 30 8).toNatClampNeg 3 0 = true then (fX4_add ((q29 30 8).toNatClampNeg) o q29).bind fun q38 => kk (nI (i + 1), q38) else none)) (hb2 : ∀ kk Y, body kk (nI 160, Y) = some Y) (h : XS T E K V P Y0 k c Y) (hl : c.length ≤ k) : ∃ Y', ((rc lv (nI d) Y).bind fun q2 => h_lp body h_FU (0, q2)) = some Y' ∧ outX T E K V P Y0 k c (match prs K V f lv d k with | .error e => .error e | .ok s => lpS K (prs K V f lv d) op 160 s) Y' := by
  obtain ⟨Y2, b1, b2⟩ := H lv d k c Y hlv hd hf h hl
  rw [b1, Option.bind_some]
  cases hres : prs K V f lv d k with
  | error kf =>
    obtain ⟨x1, x2⟩ := b2.2 kf hres
    refine ⟨Y2, ?_, outX.bad x1 x2⟩
    unfold h_FU
    rw [show (20000 : Nat) = 19999 + 1 from rfl, lp_s, show (0, Y2) = ((nI 0, Y2) : Int32 × hMem) from rfl, hb _ 0 Y2 (by omega), x1.2.1, o1]
  | ok s =>
    obtain ⟨x1, x2⟩ := b2.1 s hres
    exact x_loop hT hE H hlv hd hf hl o0 o1 hb hb2 160 h_FU 0 s Y2 rfl (by unfold h_FU; omega) x1 x2
end
section
/-! TEXT: x reads what the spec parser says -/
theorem x_cmp {T E f d k : Nat} {K V : Nat → Int32} {P : Nat → Nat} {Y0 Y : hMem} {c : List Int32} {rc : Nat → Int32 → hMem → Option hMem} (hT : T < 6) (hE : tkE E K) (H : HRC T E K V P Y0 f rc) (hd : d ≤ 5) (hf : 6 * (5 - d) + 3 ≤ f) (h : XS T E K V P Y0 k c Y) (hl : c.length ≤ k) : ∃ Y', fX5_readNot_L35 rc (nI d) Y = some Y' ∧ outX T E K V P Y0 k c (match prs K V f 3 d k with | .error e => .error e | .ok s => lpS K (prs K V f 3 d) opCmp 1 s) Y' := by
  obtain ⟨Y2, b1, b2⟩ := H 3 d k c Y (by omega) hd hf h hl
  unfold fX5_readNot_L35 fX5_readNot_L58
  rw [b1, Option.bind_some]
  cases hres : prs K V f 3 d k with
  | error kf =>
    obtain ⟨x1, x2⟩ := b2.2 kf hres
    refine ⟨Y2, ?_, outX.bad x1 x2⟩
    simp only [x1.2.1, if_neg (show ¬ (1 : Int32) = 60 from by decide), if_neg (show ¬ (1 : Int32) = 61 from by decide)]
  | ok s =>
    obtain ⟨x1, x2⟩ := b2.1 s hres
    have hK := x1.2.2.1
    have hk := x1.2.2.2.2.1
    have hE160 := hE.1
    dsimp only
    rw [lpS_s]
    simp only [hK]
    have go : ∀ o, K s.2 ≠ 0 → K s.2 ≠ 1 → ∃ Y', fX5_readNot_L74 rc (nI d) o Y2 = some Y' ∧ outX T E K V P Y0 k c (match prs K V f 3 d (s.2 + 1) with | .error e => .error e | .ok r => lpS K (prs K V f 3 d) opCmp 0 (s.1 ++ r.1 ++ [o], r.2)) Y' := fun o n0 n1 => by
      obtain ⟨Y3, a1, a2⟩ := x1.adv hT hE160 (hE.lt hk n0 n1)
      obtain ⟨Y4, d1, d2⟩ := H 3 d (s.2 + 1) (c ++ s.1) Y3 (by omega) hd hf a2 (by rw [List.length_append]; omega)
      unfold fX5_readNot_L74
      rw [a1, Option.bind_some, d1, Option.bind_some]
      cases hres2 : prs K V f 3 d (s.2 + 1) with
      | error kf =>
        obtain ⟨w1, w2⟩ := d2.2 kf hres2
        obtain ⟨Y5, e1, e2⟩ := w1.add hT o
        rw [show Y4 30 8 = nI (56 + 4 * T) from w1.1.2.2.2.1, nI_clamp (by omega), if_pos (tx_isB hT), e1, Option.bind_some]
        exact ⟨Y5, rfl, outX.bad e2 w2⟩
      | ok r =>
        obtain ⟨w1, w2⟩ := d2.1 r hres2
        have hs := w1.2.2.2.2.1
        obtain ⟨Y5, e1, e2⟩ := w1.add hT (by rw [List.length_append, List.length_append]; omega) o
        rw [show Y4 30 8 = nI (56 + 4 * T) from w1.1.2.2.2.1, nI_clamp (by omega), if_pos (tx_isB hT), e1, Option.bind_some]
        rw [List.append_assoc, List.append_assoc] at e2
        refine ⟨Y5, rfl, outX.ok (by rw [List.append_assoc]; exact e2) ?_⟩
        rw [List.length_append, List.length_append]
        show k + (s.1.length + r.1.length + 1) ≤ r.2
        omega
    unfold opCmp
    by_cases c60 : K s.2 = 60
    · simp only [if_pos c60]
      exact go (-14) (by rw [c60]; decide) (by rw [c60]; decide)
    · by_cases c61 : K s.2 = 61
      · simp only [if_neg c60, if_pos c61]
        exact go (-15) (by rw [c61]; decide) (by rw [c61]; decide)
      · simp only [if_neg c60, if_neg c61]
        exact ⟨Y2, rfl, outX.ok x1 x2⟩
theorem x_prs {T E : Nat} {K V : Nat → Int32} {P : Nat → Nat} {Y0 : hMem} (hT : T < 6) (hE : tkE E K) (hP : ∀ k, P k < 2 ^ 31) : ∀ f, HRC T E K V P Y0 f (fRR_read f) := by
  intro f
  induction f with
  | zero => intro lv d k c Y hlv hd hf; omega
  | succ f ih =>
    intro lv d k c Y hlv hd hf h hl
    have h160 : ∀ i, i < 160 → ¬ (160 : Int32) ≤ nI i := fun i hi => nI_ge (b := 160) hi (by decide)
    rcases (by omega : lv = 0 ∨ lv = 1 ∨ lv = 2 ∨ lv = 3 ∨ lv = 4 ∨ lv = 5) with rfl | rfl | rfl | rfl | rfl | rfl
    · show ∃ Y', fX5_readOr (fRR_read f) (nI d) Y = some Y' ∧ _
      unfold fX5_readOr
      refine x_level (lv := 1) (op := opOr) hT hE ih (by omega) hd (by omega) rfl rfl (fun kk i Y hi => ?_) (fun kk Y => ?_) h hl
      · unfold fX5_readOr_L7 opOr
        dsimp only
        rw [if_neg (h160 i hi), nI_1]
        by_cases c7 : Y 30 6 = 7
        · rw [if_pos c7, if_pos c7]
        · rw [if_neg c7, if_neg c7]
      · unfold fX5_readOr_L7; dsimp only; rw [if_pos (show (160 : Int32) ≤ nI 160 from by decide)]
    · show ∃ Y', fX5_readAnd (fRR_read f) (nI d) Y = some Y' ∧ _
      unfold fX5_readAnd
      refine x_level (lv := 2) (op := opAnd) hT hE ih (by omega) hd (by omega) rfl rfl (fun kk i Y hi => ?_) (fun kk Y => ?_) h hl
      · unfold fX5_readAnd_L7 opAnd
        dsimp only
        rw [if_neg (h160 i hi), nI_1]
        by_cases c7 : Y 30 6 = 8
        · rw [if_pos c7, if_pos c7]
        · rw [if_neg c7, if_neg c7]
      · unfold fX5_readAnd_L7; dsimp only; rw [if_pos (show (160 : Int32) ≤ nI 160 from by decide)]
    · show ∃ Y', fX5_readNot (fRR_read f) (nI d) Y = some Y' ∧ outX T E K V P Y0 k c (if K k = 9 ∧ d < 5 then (match prs K V f 2 (d + 1) (k + 1) with | .error e => .error e | .ok s => .ok (s.1 ++ [-13], s.2)) else (match prs K V f 3 d k with | .error e => .error e | .ok s => lpS K (prs K V f 3 d) opCmp 1 s)) Y'
      have cmp := x_cmp hT hE ih hd (by omega) h hl
      have hE160 := hE.1
      unfold fX5_readNot
      simp only [h.2.2.1]
      by_cases c9 : K k = 9
      · rw [if_pos c9]
        by_cases d5 : d < 5
        · rw [if_neg (show ¬ (5 : Int32) ≤ nI d from nI_ge (b := 5) d5 (by decide)), if_pos ⟨c9, d5⟩]
          obtain ⟨Y1, a1, a2⟩ := h.adv hT hE160 (hE.lt h.2.2.2.2.1 (by rw [c9]; decide) (by rw [c9]; decide))
          obtain ⟨Y2, b1, b2⟩ := ih 2 (d + 1) (k + 1) c Y1 (by omega) (by omega) (by omega) a2 (by omega)
          rw [a1, Option.bind_some, nI_1, b1, Option.bind_some]
          cases hres : prs K V f 2 (d + 1) (k + 1) with
          | error kf =>
            obtain ⟨x1, x2⟩ := b2.2 kf hres
            obtain ⟨Y3, e1, e2⟩ := x1.add hT (-13)
            rw [show Y2 30 8 = nI (56 + 4 * T) from x1.1.2.2.2.1, nI_clamp (by omega), if_pos (tx_isB hT), e1, Option.bind_some]
            exact ⟨Y3, rfl, outX.bad e2 x2⟩
          | ok s =>
            obtain ⟨x1, x2⟩ := b2.1 s hres
            have hs := x1.2.2.2.2.1
            obtain ⟨Y3, e1, e2⟩ := x1.add hT (by rw [List.length_append]; omega) (-13)
            rw [show Y2 30 8 = nI (56 + 4 * T) from x1.1.2.2.2.1, nI_clamp (by omega), if_pos (tx_isB hT), e1, Option.bind_some]
            rw [List.append_assoc] at e2
            exact ⟨Y3, rfl, outX.ok e2 (by rw [List.length_append]; show k + (s.1.length + 1) ≤ s.2; omega)⟩
        · rw [if_pos (show (5 : Int32) ≤ nI d from nI_le (a := 5) (by omega) (by omega)), if_neg (fun q => d5 q.2)]; exact cmp
      · rw [if_neg c9, if_neg (fun q => c9 q.1)]; exact cmp
    · show ∃ Y', fX5_readSum (fRR_read f) (nI d) Y = some Y' ∧ _
      unfold fX5_readSum
      refine x_level (lv := 4) (op := opSum) hT hE ih (by omega) hd (by omega) rfl rfl (fun kk i Y hi => ?_) (fun kk Y => ?_) h hl
      · unfold fX5_readSum_L7 fX5_readSum_L32 fX5_readSum_L48 opSum
        dsimp only
        rw [if_neg (h160 i hi), nI_1]
        by_cases c7 : Y 30 6 = 43
        · simp only [if_pos c7]
        · by_cases c8 : Y 30 6 = 45
          · simp only [if_neg c7, if_pos c8]
          · simp only [if_neg c7, if_neg c8]
      · unfold fX5_readSum_L7; dsimp only; rw [if_pos (show (160 : Int32) ≤ nI 160 from by decide)]
    · show ∃ Y', fX5_readTerm (fRR_read f) (nI d) Y = some Y' ∧ _
      unfold fX5_readTerm
      refine x_level (lv := 5) (op := opMul) hT hE ih (by omega) hd (by omega) rfl rfl (fun kk i Y hi => ?_) (fun kk Y => ?_) h hl
      · unfold fX5_readTerm_L7 opMul
        dsimp only
        rw [if_neg (h160 i hi), nI_1]
        by_cases c7 : Y 30 6 = 42
        · rw [if_pos c7, if_pos c7]
        · rw [if_neg c7, if_neg c7]
      · unfold fX5_readTerm_L7; dsimp only; rw [if_pos (show (160 : Int32) ≤ nI 160 from by decide)]
    · show ∃ Y', fX5_readOne (fRR_read f) (nI d) Y = some Y' ∧ _
      exact x_one hT hE hP ih hd (by omega) h hl
end
section
/-! TEXT: behind a fault x reads nothing more -/
def HRF (T E : Nat) (K V : Nat → Int32) (P : Nat → Nat) (Y0 : hMem) (kf f : Nat) (rc : Nat → Int32 → hMem → Option hMem) : Prop := ∀ lv d Y, lv ≤ 5 → d ≤ 5 → 6 * (5 - d) + (6 - lv) ≤ f → XF T E K V P Y0 kf Y → ∃ Y', rc lv (nI d) Y = some Y' ∧ XF T E K V P Y0 kf Y'
theorem f_level {T E : Nat} {K V : Nat → Int32} {P : Nat → Nat} {Y0 : hMem} {kf lv d : Nat} {rc : Nat → Int32 → hMem → Option hMem} {body : (Int32 × hMem → Option hMem) → Int32 × hMem → Option hMem} {Y : hMem} (H : ∃ Y', rc lv (nI d) Y = some Y' ∧ XF T E K V P Y0 kf Y') (hb : ∀ kk Y, Y 30 6 = 1 → body kk (0, Y) = some Y) : ∃ Y', ((rc lv (nI d) Y).bind fun q2 => h_lp body h_FU (0, q2)) = some Y' ∧ XF T E K V P Y0 kf Y' := by
  obtain ⟨Y2, b1, b2⟩ := H
  refine ⟨Y2, ?_, b2⟩
  rw [b1, Option.bind_some]
  unfold h_FU
  rw [show (20000 : Nat) = 19999 + 1 from rfl, lp_s, hb _ _ b2.2.1]
theorem x_fault {T E : Nat} {K V : Nat → Int32} {P : Nat → Nat} {Y0 : hMem} {kf : Nat} (hT : T < 6) (hP : P kf < 2 ^ 31) : ∀ f, HRF T E K V P Y0 kf f (fRR_read f) := by
  intro f
  induction f with
  | zero => intro lv d Y hlv hd hf; omega
  | succ f ih =>
    intro lv d Y hlv hd hf h
    have h6 := h.2.1
    have h0 : ¬ (160 : Int32) ≤ 0 := by decide
    rcases (by omega : lv = 0 ∨ lv = 1 ∨ lv = 2 ∨ lv = 3 ∨ lv = 4 ∨ lv = 5) with rfl | rfl | rfl | rfl | rfl | rfl
    · show ∃ Y', fX5_readOr (fRR_read f) (nI d) Y = some Y' ∧ _
      unfold fX5_readOr
      refine f_level (ih 1 d Y (by omega) hd (by omega) h) (fun kk Z z => ?_)
      unfold fX5_readOr_L7
      simp only [z, if_neg h0, if_neg (show ¬ (1 : Int32) = 7 from by decide)]
    · show ∃ Y', fX5_readAnd (fRR_read f) (nI d) Y = some Y' ∧ _
      unfold fX5_readAnd
      refine f_level (ih 2 d Y (by omega) hd (by omega) h) (fun kk Z z => ?_)
      unfold fX5_readAnd_L7
      simp only [z, if_neg h0, if_neg (show ¬ (1 : Int32) = 8 from by decide)]
    · show ∃ Y', fX5_readNot (fRR_read f) (nI d) Y = some Y' ∧ _
      obtain ⟨Y2, b1, b2⟩ := ih 3 d Y (by omega) hd (by omega) h
      unfold fX5_readNot fX5_readNot_L35
      refine ⟨Y2, ?_, b2⟩
      simp only [h6, if_neg (show ¬ (1 : Int32) = 9 from by decide), b1, Option.bind_some, b2.2.1, if_neg (show ¬ (1 : Int32) = 60 from by decide), if_neg (show ¬ (1 : Int32) = 61 from by decide)]
    · show ∃ Y', fX5_readSum (fRR_read f) (nI d) Y = some Y' ∧ _
      unfold fX5_readSum
      refine f_level (ih 4 d Y (by omega) hd (by omega) h) (fun kk Z z => ?_)
      unfold fX5_readSum_L7
      simp only [z, if_neg h0, if_neg (show ¬ (1 : Int32) = 43 from by decide), if_neg (show ¬ (1 : Int32) = 45 from by decide)]
    · show ∃ Y', fX5_readTerm (fRR_read f) (nI d) Y = some Y' ∧ _
      unfold fX5_readTerm
      refine f_level (ih 5 d Y (by omega) hd (by omega) h) (fun kk Z z => ?_)
      unfold fX5_readTerm_L7
      simp only [z, if_neg h0, if_neg (show ¬ (1 : Int32) = 42 from by decide)]
    · show ∃ Y', fX5_readOne (fRR_read f) (nI d) Y = some Y' ∧ _
      obtain ⟨Y2, b1, b2⟩ := h.ref hT hP
      unfold fX5_readOne fX5_readOne_L99
      refine ⟨Y2, ?_, b2⟩
      simp only [h6, if_neg (show ¬ (1 : Int32) = 2 from by decide), if_neg (show ¬ (1 : Int32) = 3 from by decide), if_neg (show ¬ (1 : Int32) = 45 from by decide), if_neg (show ¬ (1 : Int32) = 40 from by decide), b1, Option.bind_some]
/-- what is asked for stands there, or a fault -/
theorem XS.exp {T E k : Nat} {K V : Nat → Int32} {P : Nat → Nat} {Y0 Y : hMem} {c : List Int32} (hT : T < 6) (hE : tkE E K) (h : XS T E K V P Y0 k c Y) (hl : c.length ≤ 160) {a : Int32} (a0 : a ≠ 0) (a1 : a ≠ 1) : ∃ Y', fX5_expect a Y = some Y' ∧ ((K k = a ∧ XS T E K V P Y0 (k + 1) c Y') ∨ (K k ≠ a ∧ XF T E K V P Y0 k Y')) := by
  have hK := h.2.2.1
  unfold fX5_expect
  rw [hK]
  by_cases e : K k = a
  · have hlt := hE.lt h.2.2.2.2.1 (by rw [e]; exact a0) (by rw [e]; exact a1)
    obtain ⟨Y', y1, y2⟩ := h.adv hT hE.1 hlt
    rw [if_pos e, y1, Option.bind_some]
    exact ⟨Y', rfl, Or.inl ⟨e, y2⟩⟩
  · obtain ⟨Y', y1, y2⟩ := h.ref hT hE.1 hl
    rw [if_neg e, y1, Option.bind_some]
    exact ⟨Y', rfl, Or.inr ⟨e, y2⟩⟩
theorem XF.exp {T E kf : Nat} {K V : Nat → Int32} {P : Nat → Nat} {Y0 Y : hMem} (hT : T < 6) (hP : P kf < 2 ^ 31) (h : XF T E K V P Y0 kf Y) {a : Int32} (a1 : a ≠ 1) : ∃ Y', fX5_expect a Y = some Y' ∧ XF T E K V P Y0 kf Y' := by
  obtain ⟨Y', y1, y2⟩ := h.ref hT hP
  unfold fX5_expect
  rw [h.2.1, if_neg (fun q => a1 q.symm), y1, Option.bind_some]
  exact ⟨Y', rfl, y2⟩
end
section
/-! TEXT: x reads a part -/
def prt (K V : Nat → Int32) (key : Int32) (k : Nat) : Except Nat (List Int32 × Nat) := if K k = key then (match prs K V 40 0 0 (k + 1) with | .error e => .error e | .ok s => if K s.2 = 59 then .ok (s.1, s.2 + 1) else .error s.2) else .error k
theorem XS.endP {T E k : Nat} {K V : Nat → Int32} {P : Nat → Nat} {Y0 Y : hMem} {c : List Int32} (hT : T < 6) (h : XS T E K V P Y0 k c Y) {a : Nat} (ha : a < 3) : ∃ Y', fX4_endPart (56 + 4 * T) (nI a) Y = some Y' ∧ XS T E K V P (h_up Y0 (58 + 4 * T) a (nI c.length)) k c Y' := by
  obtain ⟨⟨r1, r2, r3, r4, r5, r6⟩, h5, h6, h7, hk2, hc, hw⟩ := h
  have e2 : 56 + 4 * T + 2 = 58 + 4 * T := by omega
  unfold fX4_endPart
  rw [if_pos (tx_isB hT), if_neg (nI_pos (by omega)), if_neg (show ¬ (3 : Int32) ≤ nI a from nI_ge (b := 3) ha (by decide)), if_pos (ib_mk ha (by decide)), nI_clamp (by omega), e2, hc]
  refine ⟨_, rfl, ⟨?_, ?_, ?_, ?_, ?_, ?_⟩, ?_, ?_, ?_, hk2, ?_, ?_⟩
  · intro j hj; simp (disch := omega) only [m_row]; exact r1 j hj
  · intro j hj; simp (disch := omega) only [m_row]; exact r2 j hj
  · intro j hj; simp (disch := omega) only [m_row]; exact r3 j hj
  · simp (disch := omega) only [m_row]; exact r4
  · intro q a1 a2 a3
    by_cases e : q = 58 + 4 * T
    · subst e; rw [m_own, m_own, r5 _ a1 a2 a3]
    · rw [m_row e, m_row e]; exact r5 q a1 a2 a3
  · simp (disch := omega) only [m_row]; exact r6
  · simp (disch := omega) only [m_row]; exact h5
  · simp (disch := omega) only [m_row]; exact h6
  · simp (disch := omega) only [m_row]; exact h7
  · simp (disch := omega) only [m_row]; exact hc
  · intro i hi; simp (disch := omega) only [m_row]; exact hw i hi
theorem XF.endP {T E kf : Nat} {K V : Nat → Int32} {P : Nat → Nat} {Y0 Y : hMem} (hT : T < 6) (h : XF T E K V P Y0 kf Y) {a : Nat} (ha : a < 3) : ∃ Y' v, fX4_endPart (56 + 4 * T) (nI a) Y = some Y' ∧ XF T E K V P (h_up Y0 (58 + 4 * T) a v) kf Y' := by
  obtain ⟨⟨r1, r2, r3, r4, r5, r6⟩, h6, h7, c, c1, hc⟩ := h
  have e2 : 56 + 4 * T + 2 = 58 + 4 * T := by omega
  unfold fX4_endPart
  rw [if_pos (tx_isB hT), if_neg (nI_pos (by omega)), if_neg (show ¬ (3 : Int32) ≤ nI a from nI_ge (b := 3) ha (by decide)), if_pos (ib_mk ha (by decide)), nI_clamp (by omega), e2, hc]
  refine ⟨_, nI c, rfl, ⟨?_, ?_, ?_, ?_, ?_, ?_⟩, ?_, ?_, c, c1, ?_⟩
  · intro j hj; simp (disch := omega) only [m_row]; exact r1 j hj
  · intro j hj; simp (disch := omega) only [m_row]; exact r2 j hj
  · intro j hj; simp (disch := omega) only [m_row]; exact r3 j hj
  · simp (disch := omega) only [m_row]; exact r4
  · intro q a1 a2 a3
    by_cases e : q = 58 + 4 * T
    · subst e; rw [m_own, m_own, r5 _ a1 a2 a3]
    · rw [m_row e, m_row e]; exact r5 q a1 a2 a3
  · simp (disch := omega) only [m_row]; exact r6
  · simp (disch := omega) only [m_row]; exact h6
  · simp (disch := omega) only [m_row]; exact h7
  · simp (disch := omega) only [m_row]; exact hc
theorem x_part {T E k a : Nat} {K V : Nat → Int32} {P : Nat → Nat} {Y0 Y : hMem} {c : List Int32} {key : Int32} (hT : T < 6) (hE : tkE E K) (hP : ∀ k, P k < 2 ^ 31) (ha : a < 3) (k0 : key ≠ 0) (k1 : key ≠ 1) (h : XS T E K V P Y0 k c Y) (hl : c.length ≤ k) : ∃ Y', fX5_readPart key (nI a) Y = some Y' ∧ (∀ s, prt K V key k = .ok s → XS T E K V P (h_up Y0 (58 + 4 * T) a (nI (c ++ s.1).length)) s.2 (c ++ s.1) Y' ∧ (c ++ s.1).length ≤ s.2) ∧ ∀ kf, prt K V key k = .error kf → (∃ v, XF T E K V P (h_up Y0 (58 + 4 * T) a v) kf Y') ∧ kf ≤ E := by
  have hE160 := hE.1
  have hk := h.2.2.2.2.1
  unfold fX5_readPart gX5_readOr prt
  -- what is left when a fault is met
  have rest : ∀ kf (Z : hMem), XF T E K V P Y0 kf Z → ∃ Y' v, ((fX5_expect 59 Z).bind fun q13 => if h_isB hYx (q13 30 8).toNatClampNeg 3 0 = true then ((fX4_endPart ((q13 30 8).toNatClampNeg) (nI a) q13).bind fun q21 => some q21) else none) = some Y' ∧ XF T E K V P (h_up Y0 (58 + 4 * T) a v) kf Y' := fun kf Z hZ => by
    obtain ⟨Z2, e1, e2⟩ := hZ.exp hT (hP kf) (a := 59) (by decide)
    obtain ⟨Z3, v, d1, d2⟩ := e2.endP hT ha
    rw [e1, Option.bind_some, show Z2 30 8 = nI (56 + 4 * T) from e2.1.2.2.2.1, nI_clamp (by omega), if_pos (tx_isB hT), d1, Option.bind_some]
    exact ⟨Z3, v, rfl, d2⟩
  obtain ⟨Y1, e1, e2⟩ := h.exp hT hE (by omega) k0 k1
  rw [e1, Option.bind_some]
  rcases e2 with ⟨q1, q2⟩ | ⟨q1, q2⟩
  · rw [if_pos q1]
    obtain ⟨Y2, b1, b2⟩ := x_prs hT hE hP (Y0 := Y0) (V := V) 40 0 0 (k + 1) c Y1 (by omega) (by omega) (by omega) q2 (by omega)
    rw [show fRR_read 40 0 0 Y1 = some Y2 from b1, Option.bind_some]
    cases hres : prs K V 40 0 0 (k + 1) with
    | error kf =>
      obtain ⟨x1, x2⟩ := b2.2 kf hres
      obtain ⟨Y3, v, d1, d2⟩ := rest kf Y2 x1
      exact ⟨Y3, d1, fun s e => (by cases e), fun kf' e => (by cases e; exact ⟨⟨v, d2⟩, x2⟩)⟩
    | ok s =>
      obtain ⟨x1, x2⟩ := b2.1 s hres
      have hs := x1.2.2.2.2.1
      dsimp only
      obtain ⟨Y3, g1, g2⟩ := x1.exp hT hE (by rw [List.length_append]; omega) (a := 59) (by decide) (by decide)
      rw [g1, Option.bind_some]
      rcases g2 with ⟨w1, w2⟩ | ⟨w1, w2⟩
      · obtain ⟨Y4, d1, d2⟩ := w2.endP hT ha
        rw [if_pos w1, show Y3 30 8 = nI (56 + 4 * T) from w2.1.2.2.2.1, nI_clamp (by omega), if_pos (tx_isB hT), d1, Option.bind_some]
        refine ⟨Y4, rfl, fun s' e => ?_, fun kf e => (by cases e)⟩
        cases e
        exact ⟨d2, by rw [List.length_append]; show c.length + s.1.length ≤ s.2 + 1; omega⟩
      · obtain ⟨Y4, v, d1, d2⟩ := w2.endP hT ha
        rw [if_neg w1, show Y3 30 8 = nI (56 + 4 * T) from w2.1.2.2.2.1, nI_clamp (by omega), if_pos (tx_isB hT), d1, Option.bind_some]
        exact ⟨Y4, rfl, fun s' e => (by cases e), fun kf e => (by cases e; exact ⟨⟨v, d2⟩, hs⟩)⟩
  · rw [if_neg q1]
    obtain ⟨Y2, b1, b2⟩ := x_fault hT (hP k) (E := E) (K := K) (V := V) (Y0 := Y0) 40 0 0 Y1 (by omega) (by omega) (by omega) q2
    rw [show fRR_read 40 0 0 Y1 = some Y2 from b1, Option.bind_some]
    obtain ⟨Y3, v, d1, d2⟩ := rest k Y2 b2
    exact ⟨Y3, d1, fun s' e => (by cases e), fun kf e => (by cases e; exact ⟨⟨v, d2⟩, hk⟩)⟩
end
section
/-! TEXT: x reads all three parts -/
theorem f_part {T E a kf : Nat} {K V : Nat → Int32} {P : Nat → Nat} {Y0 Y : hMem} {key : Int32} (hT : T < 6) (hP : ∀ k, P k < 2 ^ 31) (ha : a < 3) (k1 : key ≠ 1) (h : XF T E K V P Y0 kf Y) : ∃ Y' v, fX5_readPart key (nI a) Y = some Y' ∧ XF T E K V P (h_up Y0 (58 + 4 * T) a v) kf Y' := by
  unfold fX5_readPart gX5_readOr
  obtain ⟨Y1, e1, e2⟩ := h.exp hT (hP kf) k1
  obtain ⟨Y2, b1, b2⟩ := x_fault hT (hP kf) (E := E) (K := K) (V := V) (Y0 := Y0) 40 0 0 Y1 (by omega) (by omega) (by omega) e2
  obtain ⟨Z2, f1, f2⟩ := b2.exp hT (hP kf) (a := 59) (by decide)
  obtain ⟨Z3, v, d1, d2⟩ := f2.endP hT ha
  rw [e1, Option.bind_some, show fRR_read 40 0 0 Y1 = some Y2 from b1, Option.bind_some, f1, Option.bind_some, show Z2 30 8 = nI (56 + 4 * T) from f2.1.2.2.2.1, nI_clamp (by omega), if_pos (tx_isB hT), d1, Option.bind_some]
  exact ⟨Z3, v, rfl, d2⟩
/-- the end of a text, or a fault -/
theorem x_last {T E k : Nat} {K V : Nat → Int32} {P : Nat → Nat} {Y0 Y : hMem} {c : List Int32} (hT : T < 6) (hE : tkE E K) (h : XS T E K V P Y0 k c Y) (hl : c.length ≤ 160) : ∃ Y', fX5_expect 0 Y = some Y' ∧ (∀ a, a ≠ 30 → Y' a = Y a) ∧ Y' 30 0 = Y 30 0 ∧ ((K k = 0 ∧ Y' 30 7 = -1) ∨ (K k ≠ 0 ∧ Y' 30 7 = nI (P k))) := by
  have hK := h.2.2.1
  have h5 := h.2.1
  have h7 := h.2.2.2.1
  have hk := h.2.2.2.2.1
  have hE160 := hE.1
  unfold fX5_expect
  rw [hK]
  by_cases e : K k = 0
  · rw [if_pos e]
    unfold fX5_advance
    simp only [h5]
    by_cases h160 : 160 ≤ k
    · rw [if_pos (show (160 : Int32) ≤ nI k from nI_le (a := 160) h160 (by omega)), if_pos (ib_mk (by omega) (by omega)), Option.bind_some]
      refine ⟨_, rfl, fun a ha => m_row ha, ?_, Or.inl ⟨e, ?_⟩⟩
      · simp (disch := omega) only [m_own, u_n]
      · simp (disch := omega) only [m_own, u_n]; exact h7
    · rw [if_neg (show ¬ (160 : Int32) ≤ nI k from nI_ge (b := 160) (by omega) (by decide)), nI_1]
      simp only [m_own, u_s]
      rw [if_pos (ib_mk (by omega) (by omega)), Option.bind_some]
      refine ⟨_, rfl, fun a ha => by rw [m_row ha, m_row ha], ?_, Or.inl ⟨e, ?_⟩⟩
      · simp (disch := omega) only [m_own, u_n]
      · simp (disch := omega) only [m_own, u_n]; exact h7
  · rw [if_neg e]
    obtain ⟨Y', y1, y2⟩ := h.ref hT hE160 hl
    unfold fX5_refuse at y1
    simp only [h5, h7] at y1
    rw [if_neg (show ¬ (0 : Int32) ≤ -1 from by decide), if_pos (ib_mk (by omega) (by omega))] at y1
    cases y1
    unfold fX5_refuse
    simp only [h5, h7]
    rw [if_neg (show ¬ (0 : Int32) ≤ -1 from by decide), if_pos (ib_mk (by omega) (by omega)), Option.bind_some]
    refine ⟨_, rfl, fun a ha => by rw [m_row ha, m_row ha], ?_, Or.inr ⟨e, y2.2.2.1⟩⟩
    simp (disch := omega) only [m_own, u_n]
end
section
/-! TEXT: the other one's yard, as lists -/
def rkS (s : Nat) : Nat := if s = 0 then 0 else if s = 11 then 1 else if s = 12 then 2 else if s = 13 then 3 else if s ≤ 15 then 4 else if s ≤ 17 then 5 else if s = 18 then 6 else 7
def opn : List Nat → Nat
  | [] => 0
  | s :: H => opn H + (if s = 0 ∨ s = 13 ∨ s = 19 then 1 else 0)
def unw (l : Nat) : List Nat → List Int32 → List Nat × List Int32
  | [], c => ([], c)
  | s :: H, c => if rkS s < l then (s :: H, c) else unw l H (c ++ [-(nI s)])
theorem unw_c (l s : Nat) (H : List Nat) (c : List Int32) : unw l (s :: H) c = if rkS s < l then (s :: H, c) else unw l H (c ++ [-(nI s)]) := rfl
def pcs (Q : List Nat) : List Int32 := Q.map (fun s => -(nI s))
theorem pcs_app (Q R : List Nat) : pcs (Q ++ R) = pcs Q ++ pcs R := List.map_append
def topLe (r : Nat) (H : List Nat) : Prop := ∀ s H', H = s :: H' → rkS s ≤ r
theorem topLe.cons {r s : Nat} {H : List Nat} (h : rkS s ≤ r) : topLe r (s :: H) := fun s' H' e => by cases e; exact h
theorem topLe.mono {r q : Nat} {H : List Nat} (h : topLe r H) (hr : r ≤ q) : topLe q H := fun s H' e => Nat.le_trans (h s H' e) hr
theorem unw_top {l r : Nat} {H : List Nat} (h : topLe r H) (hr : r < l) (c : List Int32) : unw l H c = (H, c) := by
  cases H with
  | nil => rfl
  | cons s H => rw [unw_c, if_pos (Nat.lt_of_le_of_lt (h s H rfl) hr)]
theorem unw_app {l : Nat} : ∀ (Q H : List Nat) (c : List Int32), (∀ q, q ∈ Q → l ≤ rkS q) → unw l (Q ++ H) c = unw l H (c ++ pcs Q)
  | [], H, c, _ => by rw [show pcs [] = [] from rfl, List.append_nil]; rfl
  | s :: Q, H, c, h => by
    rw [List.cons_append, unw_c, if_neg (Nat.not_lt.mpr (h s (List.mem_cons.mpr (Or.inl rfl)))), unw_app Q H _ (fun q hq => h q (List.mem_cons.mpr (Or.inr hq))), show pcs (s :: Q) = [-(nI s)] ++ pcs Q from rfl, List.append_assoc]
theorem unw_at {l r : Nat} {Q H : List Nat} {c c' : List Int32} (hQ : ∀ q, q ∈ Q → l ≤ rkS q) (hH : topLe r H) (hr : r < l) (e : c' ++ pcs Q = c) : unw l (Q ++ H) c' = (H, c) := by rw [unw_app Q H c' hQ, e, unw_top hH hr]
def sgS (v : Int32) : Nat := if v = 7 then 11 else if v = 8 then 12 else if v = 60 then 14 else if v = 61 then 15 else if v = 43 then 16 else if v = 45 then 17 else if v = 42 then 18 else 0
def lst (r : Nat) : Nat := if r = 4 then 5 else r
def rk4 : List Nat → Bool
  | [] => false
  | s :: _ => decide (rkS s = 4)
/-- one token: where an operand is wanted; where none is -/
def yO (K V : Nat → Int32) (k : Nat) (fl : Bool) (H : List Nat) (c : List Int32) : Except (Option (List Int32)) (Option Bool × List Nat × List Int32) :=
  if K k = 2 then .ok (none, unw 7 H (c ++ [V k])) else if K k = 3 then .ok (none, unw 7 H (c ++ [-1 - V k]))
  else if K k = 9 ∧ fl = true then (if opn H = 5 then .error none else .ok (some fl, 13 :: H, c))
  else if K k = 45 then (if opn H = 5 then .error none else .ok (some false, 19 :: H, c))
  else if K k = 40 then (if opn H = 5 then .error none else .ok (some true, 0 :: H, c))
  else .error none
def yN (K : Nat → Int32) (k : Nat) (H : List Nat) (c : List Int32) : Except (Option (List Int32)) (Option Bool × List Nat × List Int32) :=
  if K k = 59 then (if (unw 1 H c).1 = [] then .error (some (unw 1 H c).2) else .error none)
  else if K k = 41 then (match (unw 1 H c).1 with | [] => .error none | _ :: H' => .ok (none, unw 7 H' (unw 1 H c).2))
  else if sgS (K k) = 0 then .error none
  else if rkS (sgS (K k)) = 4 ∧ rk4 (unw 5 H c).1 = true then .error none
  else .ok (some (decide (sgS (K k) ≤ 12)), sgS (K k) :: (unw (lst (rkS (sgS (K k)))) H c).1, (unw (lst (rkS (sgS (K k)))) H c).2)
def yst (K V : Nat → Int32) (k : Nat) (s : Option Bool × List Nat × List Int32) : Except (Option (List Int32)) (Option Bool × List Nat × List Int32) := match s.1 with
  | some fl => yO K V k fl s.2.1 s.2.2
  | none => yN K k s.2.1 s.2.2
def yg (K V : Nat → Int32) : Nat → Nat → Option Bool × List Nat × List Int32 → Except Nat (List Int32 × Nat)
  | 0, k, _ => .error k
  | f + 1, k, s => match yst K V k s with
    | .error none => .error k
    | .error (some c) => .ok (c, k + 1)
    | .ok s' => yg K V f (k + 1) s'
theorem yg_ok {K V : Nat → Int32} {k g : Nat} {s s' : Option Bool × List Nat × List Int32} (h : yst K V k s = .ok s') : yg K V (g + 1) k s = yg K V g (k + 1) s' := by
  show (match yst K V k s with | .error none => Except.error k | .error (some c) => .ok (c, k + 1) | .ok s' => yg K V g (k + 1) s') = _
  rw [h]
theorem yg_er {K V : Nat → Int32} {k g : Nat} {s : Option Bool × List Nat × List Int32} (h : yst K V k s = .error none) : yg K V (g + 1) k s = .error k := by
  show (match yst K V k s with | .error none => Except.error k | .error (some c) => .ok (c, k + 1) | .ok s' => yg K V g (k + 1) s') = _
  rw [h]
theorem yg_en {K V : Nat → Int32} {k g : Nat} {c : List Int32} {s : Option Bool × List Nat × List Int32} (h : yst K V k s = .error (some c)) : yg K V (g + 1) k s = .ok (c, k + 1) := by
  show (match yst K V k s with | .error none => Except.error k | .error (some c) => .ok (c, k + 1) | .ok s' => yg K V g (k + 1) s') = _
  rw [h]
def amax (lv : Nat) : Nat := if lv = 0 then 0 else if lv = 1 then 1 else if lv = 2 then 3 else if lv = 3 then 4 else 5
def rmin (lv : Nat) : Nat := if lv = 0 then 1 else if lv = 1 then 2 else if lv = 2 then 3 else if lv = 3 then 5 else 6
/-- what can't stand behind a level's reading -/
def fol (lv : Nat) (v : Int32) (Q : List Nat) : Prop := v ≠ 42 ∧ (lv ≤ 3 → v ≠ 43 ∧ v ≠ 45) ∧ (lv ≤ 2 → (v = 60 ∨ v = 61) → ∃ Q1 s Q2, Q = Q1 ++ s :: Q2 ∧ (∀ q, q ∈ Q1 → 5 ≤ rkS q) ∧ rkS s = 4) ∧ (lv ≤ 1 → v ≠ 8) ∧ (lv = 0 → v ≠ 7)
theorem fol.app {lv : Nat} {v : Int32} {Q : List Nat} (h : fol lv v Q) (R : List Nat) : fol lv v (Q ++ R) := by
  obtain ⟨h1, h2, h3, h4, h5⟩ := h
  refine ⟨h1, h2, fun a b => ?_, h4, h5⟩
  obtain ⟨Q1, s, Q2, e, q1, q2⟩ := h3 a b
  exact ⟨Q1, s, Q2 ++ R, by rw [e, List.append_assoc, List.cons_append], q1, q2⟩
def Yl (E : Nat) (K V : Nat → Int32) (rq : Nat) (F : Int32 → List Nat → Prop) (k : Nat) (fl : Bool) (H : List Nat) (c : List Int32) (res : Except Nat (List Int32 × Nat)) : Prop := (∀ w k', res = .ok (w, k') → k < k' ∧ k' ≤ E ∧ ∃ (Q : List Nat) (c' : List Int32), (∀ g, yg K V (g + (k' - k)) k (some fl, H, c) = yg K V g k' (none, Q ++ H, c')) ∧ c' ++ pcs Q = c ++ w ∧ (∀ q, q ∈ Q → rq ≤ rkS q) ∧ F (K k') Q) ∧ ∀ kf, res = .error kf → k ≤ kf ∧ kf ≤ E ∧ ∀ g, yg K V (g + 1 + (kf - k)) k (some fl, H, c) = .error kf
def Y5 (E : Nat) (K V : Nat → Int32) (k : Nat) (fl : Bool) (H : List Nat) (c : List Int32) (res : Except Nat (List Int32 × Nat)) : Prop := (∀ w k', res = .ok (w, k') → k < k' ∧ k' ≤ E ∧ ∀ g, yg K V (g + (k' - k)) k (some fl, H, c) = yg K V g k' (none, unw 7 H (c ++ w))) ∧ ∀ kf, res = .error kf → k ≤ kf ∧ kf ≤ E ∧ ∀ g, yg K V (g + 1 + (kf - k)) k (some fl, H, c) = .error kf
theorem Yl.ok {E : Nat} {K V : Nat → Int32} {rq : Nat} {F : Int32 → List Nat → Prop} {k k' : Nat} {fl : Bool} {H Q : List Nat} {c c' w : List Int32} (h1 : k < k') (h2 : k' ≤ E) (h3 : ∀ g, yg K V (g + (k' - k)) k (some fl, H, c) = yg K V g k' (none, Q ++ H, c')) (h4 : c' ++ pcs Q = c ++ w) (h5 : ∀ q, q ∈ Q → rq ≤ rkS q) (h6 : F (K k') Q) : Yl E K V rq F k fl H c (.ok (w, k')) := ⟨fun w' k'' e => (by cases e; exact ⟨h1, h2, Q, c', h3, h4, h5, h6⟩), fun kf e => (by cases e)⟩
theorem Yl.bad {E : Nat} {K V : Nat → Int32} {rq : Nat} {F : Int32 → List Nat → Prop} {k kf : Nat} {fl : Bool} {H : List Nat} {c : List Int32} (h1 : k ≤ kf) (h2 : kf ≤ E) (h3 : ∀ g, yg K V (g + 1 + (kf - k)) k (some fl, H, c) = .error kf) : Yl E K V rq F k fl H c (.error kf) := ⟨fun w' k'' e => (by cases e), fun kf e => (by cases e; exact ⟨h1, h2, h3⟩)⟩
theorem Y5.ok {E : Nat} {K V : Nat → Int32} {k k' : Nat} {fl : Bool} {H : List Nat} {c w : List Int32} (h1 : k < k') (h2 : k' ≤ E) (h3 : ∀ g, yg K V (g + (k' - k)) k (some fl, H, c) = yg K V g k' (none, unw 7 H (c ++ w))) : Y5 E K V k fl H c (.ok (w, k')) := ⟨fun w' k'' e => (by cases e; exact ⟨h1, h2, h3⟩), fun kf e => (by cases e)⟩
theorem Y5.bad {E : Nat} {K V : Nat → Int32} {k kf : Nat} {fl : Bool} {H : List Nat} {c : List Int32} (h1 : k ≤ kf) (h2 : kf ≤ E) (h3 : ∀ g, yg K V (g + 1 + (kf - k)) k (some fl, H, c) = .error kf) : Y5 E K V k fl H c (.error kf) := ⟨fun w' k'' e => (by cases e), fun kf e => (by cases e; exact ⟨h1, h2, h3⟩)⟩
theorem Y5.yl {E : Nat} {K V : Nat → Int32} {k r : Nat} {fl : Bool} {H : List Nat} {c : List Int32} {res : Except Nat (List Int32 × Nat)} (h : Y5 E K V k fl H c res) (hH : topLe r H) (hr : r < 7) : Yl E K V 7 (fun _ _ => True) k fl H c res := by
  refine ⟨fun w k' e => ?_, h.2⟩
  obtain ⟨a1, a2, a3⟩ := h.1 w k' e
  refine ⟨a1, a2, [], c ++ w, fun g => ?_, List.append_nil _, fun q hq => absurd hq (List.not_mem_nil), trivial⟩
  rw [a3 g, unw_top hH hr]
  rfl
theorem opn_n {s : Nat} (h : opn [s] = 0) (H : List Nat) : opn (s :: H) = opn H := by
  simp only [opn] at h ⊢
  omega
/-- what stands behind an E, but its own end, is a fault -/
theorem y_stuck {K V : Nat → Int32} {k : Nat} {Q H : List Nat} {c' : List Int32} (hF : fol 0 (K k) Q) (hQ : ∀ q, q ∈ Q → 1 ≤ rkS q) (hH : topLe 0 H) (h41 : K k = 41 → H = []) (h59 : K k = 59 → H ≠ []) : yst K V k (none, Q ++ H, c') = .error none := by
  obtain ⟨f1, f2, f3, f4, f5⟩ := hF
  show yN K k (Q ++ H) c' = _
  unfold yN
  rw [unw_at hQ hH (by decide) rfl]
  by_cases c59 : K k = 59
  · rw [if_pos c59, if_neg (h59 c59)]
  rw [if_neg c59]
  by_cases c41 : K k = 41
  · rw [if_pos c41, h41 c41]
  rw [if_neg c41]
  by_cases c0 : sgS (K k) = 0
  · rw [if_pos c0]
  rw [if_neg c0]
  have h4 : K k = 60 ∨ K k = 61 := by
    unfold sgS at c0
    rw [if_neg (f5 rfl), if_neg (f4 (by decide))] at c0
    by_cases a : K k = 60
    · exact Or.inl a
    by_cases b : K k = 61
    · exact Or.inr b
    rw [if_neg a, if_neg b, if_neg (f2 (by decide)).1, if_neg (f2 (by decide)).2, if_neg f1] at c0
    exact absurd rfl c0
  obtain ⟨Q1, s, Q2, e, q1, q2⟩ := f3 (by decide) h4
  rw [if_pos]
  refine ⟨?_, ?_⟩
  · rcases h4 with a | a
    · rw [a]; decide
    · rw [a]; decide
  · rw [e, List.append_assoc, List.cons_append, unw_app Q1 _ c' q1, unw_c, if_pos (by omega)]
    exact decide_eq_true q2
end
section
/-! TEXT: the yard does what the spec parser says -/
theorem y_loop {E d r rs : Nat} {K V : Nat → Int32} {Fs F : Int32 → List Nat → Prop} {op : Int32 → Option Int32} {g : Nat → Except Nat (List Int32 × Nat)} {fl' : Bool} (hE : tkE E K) (hr1 : 1 ≤ r) (hr4 : r ≠ 4) (hrs : r ≤ rs) (hop : ∀ v o, op v = some o → v ≠ 0 ∧ v ≠ 1 ∧ v ≠ 59 ∧ v ≠ 41 ∧ sgS v ≠ 0 ∧ o = -(nI (sgS v)) ∧ rkS (sgS v) = r ∧ decide (sgS v ≤ 12) = fl' ∧ opn [sgS v] = 0) (hF : ∀ v Q R, Fs v Q → op v = none → F v (Q ++ R)) (hsub : ∀ k H c, k ≤ E → opn H = d → topLe r H → Yl E K V rs Fs k fl' H c (g k)) : ∀ (m : Nat) (s : List Int32 × Nat) (H : List Nat) (c : List Int32) (k0 : Nat) (fl0 : Bool) (Q : List Nat) (c' : List Int32), E - s.2 < m → s.2 ≤ E → k0 < s.2 → (∀ g, yg K V (g + (s.2 - k0)) k0 (some fl0, H, c) = yg K V g s.2 (none, Q ++ H, c')) → c' ++ pcs Q = c ++ s.1 → (∀ q, q ∈ Q → r ≤ rkS q) → (op (K s.2) = none → F (K s.2) Q) → topLe (r - 1) H → opn H = d → Yl E K V r F k0 fl0 H c (lpS K g op m s) := by
  intro m
  induction m with
  | zero => intro s H c k0 fl0 Q c' hm; omega
  | succ m ih =>
    intro s H c k0 fl0 Q c' hm hsE hk0 hrun hcode hQ hFQ hH ho
    rw [lpS_s]
    cases hopv : op (K s.2) with
    | none => exact Yl.ok (w := s.1) (k' := s.2) hk0 hsE hrun hcode hQ (hFQ hopv)
    | some o =>
      dsimp only
      obtain ⟨v0, v1, v59, v41, vs, vo, vr, vf, vn⟩ := hop _ _ hopv
      have hlt := hE.lt hsE v0 v1
      have st : yst K V s.2 (none, Q ++ H, c') = .ok (some fl', sgS (K s.2) :: H, c ++ s.1) := by
        show yN K s.2 (Q ++ H) c' = _
        unfold yN
        rw [if_neg v59, if_neg v41, if_neg vs, if_neg (fun q => hr4 (vr.symm.trans q.1)), vr, show lst r = r from if_neg hr4, unw_at hQ hH (by omega) hcode, vf]
      have hsb := hsub (s.2 + 1) (sgS (K s.2) :: H) (c ++ s.1) hlt (by rw [opn_n vn, ho]) (topLe.cons (Nat.le_of_eq vr))
      cases hres : g (s.2 + 1) with
      | error kf =>
        obtain ⟨a1, a2, a3⟩ := hsb.2 kf hres
        refine Yl.bad (by omega) a2 (fun g' => ?_)
        rw [show g' + 1 + (kf - k0) = (g' + 1 + (kf - (s.2 + 1))) + 1 + (s.2 - k0) from by omega, hrun, yg_ok st, a3]
      | ok p =>
        obtain ⟨a1, a2, Q', c2, a3, a4, a5, a6⟩ := hsb.1 p.1 p.2 hres
        dsimp only
        refine ih (s.1 ++ p.1 ++ [o], p.2) H c k0 fl0 (Q' ++ [sgS (K s.2)]) c2 (by show E - p.2 < m; omega) a2 (by show k0 < p.2; omega) (fun g' => ?_) ?_ ?_ (fun q => hF _ _ _ a6 q) hH ho
        · show yg K V (g' + (p.2 - k0)) k0 (some fl0, H, c) = yg K V g' p.2 (none, Q' ++ [sgS (K s.2)] ++ H, c2)
          rw [show g' + (p.2 - k0) = (g' + (p.2 - (s.2 + 1))) + 1 + (s.2 - k0) from by omega, hrun, yg_ok st, a3, List.append_assoc]
          rfl
        · show c2 ++ pcs (Q' ++ [sgS (K s.2)]) = c ++ (s.1 ++ p.1 ++ [o])
          rw [pcs_app, ← List.append_assoc, a4, vo, List.append_assoc, List.append_assoc, List.append_assoc]
          rfl
        · intro q hq
          rcases List.mem_append.mp hq with h | h
          · exact Nat.le_trans hrs (a5 q h)
          · rw [List.mem_singleton.mp h]; exact Nat.le_of_eq vr.symm
theorem y_level {E d r rs k : Nat} {K V : Nat → Int32} {Fs F : Int32 → List Nat → Prop} {op : Int32 → Option Int32} {g : Nat → Except Nat (List Int32 × Nat)} {fl' fl : Bool} {H : List Nat} {c : List Int32} (hE : tkE E K) (hr1 : 1 ≤ r) (hr4 : r ≠ 4) (hrs : r ≤ rs) (hop : ∀ v o, op v = some o → v ≠ 0 ∧ v ≠ 1 ∧ v ≠ 59 ∧ v ≠ 41 ∧ sgS v ≠ 0 ∧ o = -(nI (sgS v)) ∧ rkS (sgS v) = r ∧ decide (sgS v ≤ 12) = fl' ∧ opn [sgS v] = 0) (hF : ∀ v Q R, Fs v Q → op v = none → F v (Q ++ R)) (hsub : ∀ k H c, k ≤ E → opn H = d → topLe r H → Yl E K V rs Fs k fl' H c (g k)) (h1 : Yl E K V rs Fs k fl H c (g k)) (hH : topLe (r - 1) H) (ho : opn H = d) : Yl E K V r F k fl H c (match g k with | .error e => .error e | .ok s => lpS K g op 160 s) := by
  have hE160 := hE.1
  cases hres : g k with
  | error kf =>
    obtain ⟨a1, a2, a3⟩ := h1.2 kf hres
    exact Yl.bad a1 a2 a3
  | ok s =>
    obtain ⟨a1, a2, Q, c', a3, a4, a5, a6⟩ := h1.1 s.1 s.2 hres
    exact y_loop hE hr1 hr4 hrs hop hF hsub 160 s H c k fl Q c' (by omega) a2 a1 a3 a4 (fun q hq => Nat.le_trans hrs (a5 q hq)) (fun q => by have := hF _ _ [] a6 q; rw [List.append_nil] at this; exact this) hH ho
def HYl (E : Nat) (K V : Nat → Int32) (f : Nat) : Prop := ∀ lv d k fl H c, lv ≤ 4 → d ≤ 5 → 6 * (5 - d) + (6 - lv) ≤ f → k ≤ E → opn H = d → topLe (amax lv) H → (lv ≤ 2 → fl = true) → (3 ≤ lv → fl = true → K k = 9 → 5 ≤ d) → Yl E K V (rmin lv) (fol lv) k fl H c (prs K V f lv d k)
def HY5 (E : Nat) (K V : Nat → Int32) (f : Nat) : Prop := ∀ d k fl H c, d ≤ 5 → 6 * (5 - d) + 1 ≤ f → k ≤ E → opn H = d → (fl = true → K k = 9 → 5 ≤ d) → Y5 E K V k fl H c (prs K V f 5 d k)
theorem y_one {E f : Nat} {K V : Nat → Int32} (hE : tkE E K) (H0 : HYl E K V f) (H5 : HY5 E K V f) : HY5 E K V (f + 1) := by
  intro d k fl H c hd hf hk ho hfl
  have lit : ∀ m : Int32, K k = m → m ≠ 0 → m ≠ 1 → k < E := fun m e n0 n1 => hE.lt hk (by rw [e]; exact n0) (by rw [e]; exact n1)
  show Y5 E K V k fl H c (if K k = 2 then .ok ([V k], k + 1) else if K k = 3 then .ok ([-1 - V k], k + 1)
        else if K k = 45 ∧ d < 5 then (match prs K V f 5 (d + 1) (k + 1) with | .error e => .error e | .ok s => .ok (s.1 ++ [-19], s.2))
        else if K k = 40 ∧ d < 5 then (match prs K V f 0 (d + 1) (k + 1) with | .error e => .error e | .ok s => if K s.2 = 41 then .ok (s.1, s.2 + 1) else .error s.2)
        else .error k)
  by_cases c2 : K k = 2
  · have hlt := lit 2 c2 (by decide) (by decide)
    have st : yst K V k (some fl, H, c) = .ok (none, unw 7 H (c ++ [V k])) := by
      show yO K V k fl H c = _
      unfold yO; rw [if_pos c2]
    rw [if_pos c2]
    exact Y5.ok (by omega) hlt (fun g => by rw [show g + (k + 1 - k) = g + 1 from by omega, yg_ok st])
  rw [if_neg c2]
  by_cases c3 : K k = 3
  · have hlt := lit 3 c3 (by decide) (by decide)
    have st : yst K V k (some fl, H, c) = .ok (none, unw 7 H (c ++ [-1 - V k])) := by
      show yO K V k fl H c = _
      unfold yO; rw [if_neg c2, if_pos c3]
    rw [if_pos c3]
    exact Y5.ok (by omega) hlt (fun g => by rw [show g + (k + 1 - k) = g + 1 from by omega, yg_ok st])
  rw [if_neg c3]
  by_cases c45 : K k = 45 ∧ d < 5
  · have hlt := lit 45 c45.1 (by decide) (by decide)
    have st : yst K V k (some fl, H, c) = .ok (some false, 19 :: H, c) := by
      show yO K V k fl H c = _
      unfold yO; rw [if_neg c2, if_neg c3, if_neg (fun q => absurd (c45.1.symm.trans q.1) (by decide)), if_pos c45.1, if_neg (by omega)]
    rw [if_pos c45]
    have h1 := H5 (d + 1) (k + 1) false (19 :: H) c (by omega) (by omega) hlt (by show opn H + 1 = d + 1; rw [ho]) (fun q => by cases q)
    cases hres : prs K V f 5 (d + 1) (k + 1) with
    | error kf =>
      obtain ⟨a1, a2, a3⟩ := h1.2 kf hres
      exact Y5.bad (by omega) a2 (fun g => by rw [show g + 1 + (kf - k) = (g + 1 + (kf - (k + 1))) + 1 from by omega, yg_ok st, a3])
    | ok s =>
      obtain ⟨a1, a2, a3⟩ := h1.1 s.1 s.2 hres
      exact Y5.ok (by omega) a2 (fun g => by rw [show g + (s.2 - k) = (g + (s.2 - (k + 1))) + 1 from by omega, yg_ok st, a3, unw_c, if_neg (by decide), List.append_assoc]; rfl)
  rw [if_neg c45]
  by_cases c40 : K k = 40 ∧ d < 5
  · have hlt := lit 40 c40.1 (by decide) (by decide)
    have st : yst K V k (some fl, H, c) = .ok (some true, 0 :: H, c) := by
      show yO K V k fl H c = _
      unfold yO; rw [if_neg c2, if_neg c3, if_neg (fun q => absurd (c40.1.symm.trans q.1) (by decide)), if_neg (fun q => absurd (c40.1.symm.trans q) (by decide)), if_pos c40.1, if_neg (by omega)]
    rw [if_pos c40]
    have h1 := H0 0 (d + 1) (k + 1) true (0 :: H) c (by omega) (by omega) (by omega) hlt (by show opn H + 1 = d + 1; rw [ho]) (topLe.cons (by decide)) (fun _ => rfl) (fun q => absurd q (by omega))
    cases hres : prs K V f 0 (d + 1) (k + 1) with
    | error kf =>
      obtain ⟨a1, a2, a3⟩ := h1.2 kf hres
      exact Y5.bad (by omega) a2 (fun g => by rw [show g + 1 + (kf - k) = (g + 1 + (kf - (k + 1))) + 1 from by omega, yg_ok st, a3])
    | ok s =>
      obtain ⟨a1, a2, Q, c', a3, a4, a5, a6⟩ := h1.1 s.1 s.2 hres
      dsimp only
      by_cases c41 : K s.2 = 41
      · have hlt2 := hE.lt a2 (by rw [c41]; decide) (by rw [c41]; decide)
        have st2 : yst K V s.2 (none, Q ++ 0 :: H, c') = .ok (none, unw 7 H (c ++ s.1)) := by
          show yN K s.2 (Q ++ 0 :: H) c' = _
          unfold yN
          rw [if_neg (by rw [c41]; decide), if_pos c41, unw_at (l := 1) a5 (topLe.cons (show rkS 0 ≤ 0 from by decide)) (by decide) a4]
        rw [if_pos c41]
        exact Y5.ok (by omega) hlt2 (fun g => by rw [show g + (s.2 + 1 - k) = ((g + 1) + (s.2 - (k + 1))) + 1 from by omega, yg_ok st, a3, yg_ok st2])
      · rw [if_neg c41]
        have st2 : yst K V s.2 (none, Q ++ 0 :: H, c') = .error none := y_stuck a6 a5 (topLe.cons (by decide)) (fun q => absurd q c41) (fun _ q => by cases q)
        exact Y5.bad (by omega) a2 (fun g => by rw [show g + 1 + (s.2 - k) = ((g + 1) + (s.2 - (k + 1))) + 1 from by omega, yg_ok st, a3, yg_er st2])
  rw [if_neg c40]
  have st : yst K V k (some fl, H, c) = .error none := by
    show yO K V k fl H c = _
    unfold yO; rw [if_neg c2, if_neg c3]
    by_cases c9 : K k = 9 ∧ fl = true
    · have := hfl c9.2 c9.1
      rw [if_pos c9, if_pos (by omega)]
    rw [if_neg c9]
    by_cases d45 : K k = 45
    · rw [if_pos d45, if_pos (by have : ¬ d < 5 := fun q => c45 ⟨d45, q⟩; omega)]
    rw [if_neg d45]
    by_cases d40 : K k = 40
    · rw [if_pos d40, if_pos (by have : ¬ d < 5 := fun q => c40 ⟨d40, q⟩; omega)]
    rw [if_neg d40]
  exact Y5.bad (Nat.le_refl _) hk (fun g => by rw [show g + 1 + (k - k) = g + 1 from by omega, yg_er st])
theorem y_prs {E : Nat} {K V : Nat → Int32} (hE : tkE E K) : ∀ f, HYl E K V f ∧ HY5 E K V f := by
  intro f
  induction f with
  | zero => exact ⟨fun lv d k fl H c h1 h2 h3 => by omega, fun d k fl H c h1 h2 => by omega⟩
  | succ f ih =>
    refine ⟨?_, y_one hE ih.1 ih.2⟩
    intro lv d k fl H c hlv hd hf hk ho hH hfl hf9
    rcases (by omega : lv = 0 ∨ lv = 1 ∨ lv = 2 ∨ lv = 3 ∨ lv = 4) with rfl | rfl | rfl | rfl | rfl
    · have e := hfl (by omega)
      subst e
      show Yl E K V 1 (fol 0) k true H c (match prs K V f 1 d k with | .error e => .error e | .ok s => lpS K (prs K V f 1 d) opOr 160 s)
      refine y_level (d := d) (rs := 2) (Fs := fol 1) (fl' := true) hE (by decide) (by decide) (by decide) ?_ ?_ ?_ ?_ (hH.mono (by decide)) ho
      · intro v o e
        unfold opOr at e
        by_cases a : v = 7
        · rw [if_pos a] at e; cases e; subst a; decide
        · rw [if_neg a] at e; cases e
      · intro v Q R h e
        have h' := h.app R
        refine ⟨h'.1, fun _ => h'.2.1 (by decide), fun _ => h'.2.2.1 (by decide), fun _ => h'.2.2.2.1 (by decide), fun _ a => ?_⟩
        unfold opOr at e; rw [if_pos a] at e; cases e
      · intro k H c hk ho hH
        exact ih.1 1 d k true H c (by omega) hd (by omega) hk ho hH (fun _ => rfl) (fun q => absurd q (by omega))
      · exact ih.1 1 d k true H c (by omega) hd (by omega) hk ho (hH.mono (by decide)) (fun _ => rfl) (fun q => absurd q (by omega))
    · have e := hfl (by omega)
      subst e
      show Yl E K V 2 (fol 1) k true H c (match prs K V f 2 d k with | .error e => .error e | .ok s => lpS K (prs K V f 2 d) opAnd 160 s)
      refine y_level (d := d) (rs := 3) (Fs := fol 2) (fl' := true) hE (by decide) (by decide) (by decide) ?_ ?_ ?_ ?_ (hH.mono (by decide)) ho
      · intro v o e
        unfold opAnd at e
        by_cases a : v = 8
        · rw [if_pos a] at e; cases e; subst a; decide
        · rw [if_neg a] at e; cases e
      · intro v Q R h e
        have h' := h.app R
        refine ⟨h'.1, fun _ => h'.2.1 (by decide), fun _ => h'.2.2.1 (by decide), fun _ a => ?_, fun q => absurd q (by decide)⟩
        unfold opAnd at e; rw [if_pos a] at e; cases e
      · intro k H c hk ho hH
        exact ih.1 2 d k true H c (by omega) hd (by omega) hk ho (hH.mono (by decide)) (fun _ => rfl) (fun q => absurd q (by omega))
      · exact ih.1 2 d k true H c (by omega) hd (by omega) hk ho (hH.mono (by decide)) (fun _ => rfl) (fun q => absurd q (by omega))
    · have e := hfl (by omega)
      subst e
      show Yl E K V 3 (fol 2) k true H c (if K k = 9 ∧ d < 5 then (match prs K V f 2 (d + 1) (k + 1) with | .error e => .error e | .ok s => .ok (s.1 ++ [-13], s.2))
        else (match prs K V f 3 d k with | .error e => .error e | .ok s => lpS K (prs K V f 3 d) opCmp 1 s))
      by_cases c9 : K k = 9 ∧ d < 5
      · have hlt := hE.lt hk (by rw [c9.1]; decide) (by rw [c9.1]; decide)
        have st : yst K V k (some true, H, c) = .ok (some true, 13 :: H, c) := by
          show yO K V k true H c = _
          unfold yO; rw [if_neg (by rw [c9.1]; decide), if_neg (by rw [c9.1]; decide), if_pos ⟨c9.1, rfl⟩, if_neg (by omega)]
        rw [if_pos c9]
        have h1 := ih.1 2 (d + 1) (k + 1) true (13 :: H) c (by omega) (by omega) (by omega) hlt (by show opn H + 1 = d + 1; rw [ho]) (topLe.cons (by decide)) (fun _ => rfl) (fun q => absurd q (by omega))
        cases hres : prs K V f 2 (d + 1) (k + 1) with
        | error kf =>
          obtain ⟨a1, a2, a3⟩ := h1.2 kf hres
          exact Yl.bad (by omega) a2 (fun g => by rw [show g + 1 + (kf - k) = (g + 1 + (kf - (k + 1))) + 1 from by omega, yg_ok st, a3])
        | ok s =>
          obtain ⟨a1, a2, Q, c', a3, a4, a5, a6⟩ := h1.1 s.1 s.2 hres
          refine Yl.ok (Q := Q ++ [13]) (c' := c') (by omega) a2 (fun g => ?_) ?_ (fun q hq => ?_) (a6.app _)
          · rw [show g + (s.2 - k) = (g + (s.2 - (k + 1))) + 1 from by omega, yg_ok st, a3, List.append_assoc]; rfl
          · rw [pcs_app, ← List.append_assoc, a4, List.append_assoc]; rfl
          · rcases List.mem_append.mp hq with h | h
            · exact a5 q h
            · rw [List.mem_singleton.mp h]; decide
      · rw [if_neg c9]
        have h1 := ih.1 3 d k true H c (by omega) hd (by omega) hk ho (hH.mono (by decide)) (fun q => absurd q (by omega)) (fun _ _ q => by have : ¬ d < 5 := fun a => c9 ⟨q, a⟩; omega)
        cases hres : prs K V f 3 d k with
        | error kf =>
          obtain ⟨a1, a2, a3⟩ := h1.2 kf hres
          exact Yl.bad a1 a2 a3
        | ok s =>
          obtain ⟨a1, a2, Q, c', a3, a4, a5, a6⟩ := h1.1 s.1 s.2 hres
          dsimp only
          rw [lpS_s]
          have sub : ∀ o, K s.2 ≠ 0 → K s.2 ≠ 1 → K s.2 ≠ 59 → K s.2 ≠ 41 → sgS (K s.2) ≠ 0 → o = -(nI (sgS (K s.2))) → rkS (sgS (K s.2)) = 4 → decide (sgS (K s.2) ≤ 12) = false → opn [sgS (K s.2)] = 0 → Yl E K V 3 (fol 2) k true H c (match prs K V f 3 d (s.2 + 1) with | .error e => .error e | .ok r => lpS K (prs K V f 3 d) opCmp 0 (s.1 ++ r.1 ++ [o], r.2)) := by
            intro o v0 v1 v59 v41 vs vo vr vf vn
            have hlt := hE.lt a2 v0 v1
            have st : yst K V s.2 (none, Q ++ H, c') = .ok (some false, sgS (K s.2) :: H, c ++ s.1) := by
              show yN K s.2 (Q ++ H) c' = _
              unfold yN
              rw [if_neg v59, if_neg v41, if_neg vs, vr, show lst 4 = 5 from rfl, unw_at (l := 5) a5 hH (by decide) a4, vf, if_neg]
              rintro ⟨-, q⟩
              cases H with
              | nil => cases q
              | cons t H' =>
                have h4 := of_decide_eq_true q
                have h3 := hH t H' rfl
                have h3' : rkS t ≤ 3 := h3
                omega
            have hsb := ih.1 3 d (s.2 + 1) false (sgS (K s.2) :: H) (c ++ s.1) (by omega) hd (by omega) hlt (by rw [opn_n vn, ho]) (topLe.cons (by rw [vr]; decide)) (fun q => absurd q (by omega)) (fun _ q => by cases q)
            cases hres2 : prs K V f 3 d (s.2 + 1) with
            | error kf =>
              obtain ⟨b1, b2, b3⟩ := hsb.2 kf hres2
              refine Yl.bad (by omega) b2 (fun g' => ?_)
              rw [show g' + 1 + (kf - k) = (g' + 1 + (kf - (s.2 + 1))) + 1 + (s.2 - k) from by omega, a3, yg_ok st, b3]
            | ok p =>
              obtain ⟨b1, b2, Q', c2, b3, b4, b5, b6⟩ := hsb.1 p.1 p.2 hres2
              show Yl E K V 3 (fol 2) k true H c (.ok (s.1 ++ p.1 ++ [o], p.2))
              refine Yl.ok (Q := Q' ++ [sgS (K s.2)]) (c' := c2) (by omega) b2 (fun g' => ?_) ?_ (fun q hq => ?_) ⟨b6.1, fun _ => b6.2.1 (by decide), fun _ _ => ⟨Q', sgS (K s.2), [], rfl, b5, vr⟩, fun q => absurd q (by decide), fun q => absurd q (by decide)⟩
              · rw [show g' + (p.2 - k) = (g' + (p.2 - (s.2 + 1))) + 1 + (s.2 - k) from by omega, a3, yg_ok st, b3, List.append_assoc]; rfl
              · rw [pcs_app, ← List.append_assoc, b4, vo, List.append_assoc, List.append_assoc, List.append_assoc]; rfl
              · rcases List.mem_append.mp hq with h | h
                · exact Nat.le_trans (show 3 ≤ 5 by decide) (b5 q h)
                · rw [List.mem_singleton.mp h, vr]; decide
          unfold opCmp
          by_cases c60 : K s.2 = 60
          · simp only [if_pos c60]
            exact sub (-14) (by rw [c60]; decide) (by rw [c60]; decide) (by rw [c60]; decide) (by rw [c60]; decide) (by rw [c60]; decide) (by rw [c60]; decide) (by rw [c60]; decide) (by rw [c60]; decide) (by rw [c60]; decide)
          by_cases c61 : K s.2 = 61
          · simp only [if_neg c60, if_pos c61]
            exact sub (-15) (by rw [c61]; decide) (by rw [c61]; decide) (by rw [c61]; decide) (by rw [c61]; decide) (by rw [c61]; decide) (by rw [c61]; decide) (by rw [c61]; decide) (by rw [c61]; decide) (by rw [c61]; decide)
          simp only [if_neg c60, if_neg c61]
          exact Yl.ok (w := s.1) (k' := s.2) a1 a2 a3 a4 (fun q hq => Nat.le_trans (show 3 ≤ 5 by decide) (a5 q hq)) ⟨a6.1, fun _ => a6.2.1 (by decide), fun _ q => absurd q (fun q => q.elim c60 c61), fun q => absurd q (by decide), fun q => absurd q (by decide)⟩
    · show Yl E K V 5 (fol 3) k fl H c (match prs K V f 4 d k with | .error e => .error e | .ok s => lpS K (prs K V f 4 d) opSum 160 s)
      refine y_level (d := d) (rs := 6) (Fs := fol 4) (fl' := false) hE (by decide) (by decide) (by decide) ?_ ?_ ?_ ?_ (hH.mono (by decide)) ho
      · intro v o e
        unfold opSum at e
        by_cases a : v = 43
        · rw [if_pos a] at e; cases e; subst a; decide
        rw [if_neg a] at e
        by_cases b : v = 45
        · rw [if_pos b] at e; cases e; subst b; decide
        · rw [if_neg b] at e; cases e
      · intro v Q R h e
        refine ⟨h.1, fun _ => ⟨fun a => ?_, fun a => ?_⟩, fun q => absurd q (by decide), fun q => absurd q (by decide), fun q => absurd q (by decide)⟩
        · unfold opSum at e; rw [if_pos a] at e; cases e
        · unfold opSum at e; rw [if_neg (by rw [a]; decide), if_pos a] at e; cases e
      · intro k H c hk ho hH
        exact ih.1 4 d k false H c (by omega) hd (by omega) hk ho hH (fun q => absurd q (by omega)) (fun _ q => by cases q)
      · exact ih.1 4 d k fl H c (by omega) hd (by omega) hk ho (hH.mono (by decide)) (fun q => absurd q (by omega)) (fun _ => hf9 (by omega))
    · show Yl E K V 6 (fol 4) k fl H c (match prs K V f 5 d k with | .error e => .error e | .ok s => lpS K (prs K V f 5 d) opMul 160 s)
      refine y_level (d := d) (rs := 7) (Fs := fun _ _ => True) (fl' := false) hE (by decide) (by decide) (by decide) ?_ ?_ ?_ ?_ (hH.mono (by decide)) ho
      · intro v o e
        unfold opMul at e
        by_cases a : v = 42
        · rw [if_pos a] at e; cases e; subst a; decide
        · rw [if_neg a] at e; cases e
      · intro v Q R h e
        refine ⟨fun a => ?_, fun q => absurd q (by decide), fun q => absurd q (by decide), fun q => absurd q (by decide), fun q => absurd q (by decide)⟩
        unfold opMul at e; rw [if_pos a] at e; cases e
      · intro k H c hk ho hH
        exact (ih.2 d k false H c hd (by omega) hk ho (fun q => by cases q)).yl hH (by decide)
      · exact (ih.2 d k fl H c hd (by omega) hk ho (hf9 (by omega))).yl hH (by decide)
/-- an E up to its end: the yard's answer -/
theorem y_all {E k : Nat} {K V : Nat → Int32} {c : List Int32} (hE : tkE E K) (hk : k ≤ E) : (∀ w k', prs K V 40 0 0 k = .ok (w, k') → k < k' ∧ k' ≤ E ∧ (K k' = 59 → ∀ g, yg K V (g + 1 + (k' - k)) k (some true, [], c) = .ok (c ++ w, k' + 1)) ∧ (K k' ≠ 59 → ∀ g, yg K V (g + 1 + (k' - k)) k (some true, [], c) = .error k')) ∧ ∀ kf, prs K V 40 0 0 k = .error kf → k ≤ kf ∧ kf ≤ E ∧ ∀ g, yg K V (g + 1 + (kf - k)) k (some true, [], c) = .error kf := by
  have h := (y_prs (V := V) hE 40).1 0 0 k true [] c (by omega) (by omega) (by omega) hk rfl (fun s H' e => by cases e) (fun _ => rfl) (fun q => absurd q (by omega))
  refine ⟨fun w k' e => ?_, h.2⟩
  obtain ⟨a1, a2, Q, c', a3, a4, a5, a6⟩ := h.1 w k' e
  refine ⟨a1, a2, fun c59 g => ?_, fun c59 g => ?_⟩
  · have st : yst K V k' (none, Q ++ [], c') = .error (some (c ++ w)) := by
      show yN K k' (Q ++ []) c' = _
      unfold yN
      rw [if_pos c59, unw_at (l := 1) a5 (show topLe 0 [] from fun s H' e => by cases e) (by decide) a4, if_pos rfl]
    rw [a3, yg_en st]
  · rw [a3, yg_er (y_stuck a6 a5 (fun s H' e => by cases e) (fun _ => rfl) (fun q => absurd q c59))]
end
section
/-! TEXT: the yard's small steps in the other one's memory -/
def hld (r : Nat → Int32) : List Nat → Prop
  | [] => True
  | s :: H => r H.length = nI s ∧ (s = 0 ∨ (11 ≤ s ∧ s < 20)) ∧ hld r H
theorem hld.up {r : Nat → Int32} {v : Int32} {j : Nat} : ∀ {H : List Nat}, hld r H → H.length ≤ j → hld (upd r j v) H
  | [], _, _ => trivial
  | s :: H, h, hj => by
    have hj' : H.length + 1 ≤ j := hj
    exact ⟨by rw [u_n (by omega)]; exact h.1, h.2.1, h.2.2.up (by omega)⟩
def kY (j : Nat) : Prop := j < 25 ∨ (28 < j ∧ j ≠ 31 ∧ j ≠ 32 ∧ j ≠ 33)
/-- the other one reads on: at place p, so many begun, these held, this code -/
def YM (T : Nat) (M0 : hMem) (z : Int32) (p o : Nat) (H : List Nat) (c : List Int32) (M : hMem) : Prop := (∀ a, a ≠ 0 → a ≠ 10 → a ≠ 18 → M a = M0 a) ∧ (∀ j, kY j → M 0 j = M0 0 j) ∧ (∀ j, j < 200 * T → M 10 j = M0 10 j) ∧ M 0 31 = nI H.length ∧ M 0 32 = nI o ∧ M 0 33 = nI c.length ∧ hld (M 18) H ∧ (∀ i, i < c.length → M 10 (200 * T + i) = trW (c.getD i 0)) ∧ M 0 25 = nI p ∧ M 0 26 = z
theorem YM.puts {T p o : Nat} {M0 M : hMem} {z : Int32} {H : List Nat} {c : List Int32} (hT : T < 6) (h14 : M0 0 14 = nI T) (h : YM T M0 z p o H c M) (hc : c.length < 160) (w : Int32) : ∃ M', fX10_puts (trW w) M = some M' ∧ YM T M0 z p o H (c ++ [w]) M' := by
  obtain ⟨h1, h2, h3, h4, h5, h6, h7, h8, h9, h10⟩ := h
  have e14 : M 0 14 = nI T := by rw [h2 14 (by unfold kY; omega)]; exact h14
  unfold fX10_puts
  rw [e14, h6, show (200 : Int32) * nI T = nI (200 * T) from pk_mul 200 T, nI_add, if_pos (ib_mk (by omega) (by omega)), nI_clamp (by omega)]
  refine ⟨_, rfl, ?_, ?_, ?_, ?_, ?_, ?_, ?_, ?_, ?_, ?_⟩
  · intro a a1 a2 a3; simp (disch := omega) only [m_row]; exact h1 a a1 a2 a3
  · intro j hj
    have : j ≠ 33 := by unfold kY at hj; omega
    simp (disch := omega) only [m_own, m_row, u_n]; exact h2 j hj
  · intro j hj; simp (disch := omega) only [m_own, m_row, u_n]; exact h3 j hj
  · simp (disch := omega) only [m_own, m_row, u_n]; exact h4
  · simp (disch := omega) only [m_own, m_row, u_n]; exact h5
  · simp (disch := omega) only [m_own, m_row, u_s]
    rw [h6, nI_1, List.length_append]; rfl
  · simp (disch := omega) only [m_row]; exact h7
  · intro i hi
    rw [List.length_append] at hi
    have hi' : i < c.length + 1 := hi
    simp (disch := omega) only [m_own, m_row]
    rw [getD_app, u_e]
    by_cases e : i = c.length
    · subst e; rw [if_pos rfl, if_neg (by omega), if_pos rfl]
    · rw [if_neg (by omega), if_pos (by omega)]; exact h8 i (by omega)
  · simp (disch := omega) only [m_own, m_row, u_n]; exact h9
  · simp (disch := omega) only [m_own, m_row, u_n]; exact h10
theorem YM.opd {T p o o' : Nat} {M0 M : hMem} {z : Int32} {H : List Nat} {c : List Int32} (h : YM T M0 z p o H c M) {v : Int32} (hv : v = nI o') : YM T M0 z p o' H c (h_up M 0 32 v) := by
  obtain ⟨h1, h2, h3, h4, h5, h6, h7, h8, h9, h10⟩ := h
  subst hv
  refine ⟨?_, ?_, ?_, ?_, ?_, ?_, ?_, ?_, ?_, ?_⟩
  · intro a a1 a2 a3; rw [m_row a1]; exact h1 a a1 a2 a3
  · intro j hj
    have : j ≠ 32 := by unfold kY at hj; omega
    rw [m_own, u_n this]; exact h2 j hj
  · intro j hj; rw [m_row (by omega)]; exact h3 j hj
  · rw [m_own, u_n (by omega)]; exact h4
  · rw [m_own, u_s]
  · rw [m_own, u_n (by omega)]; exact h6
  · rw [m_row (by omega)]; exact h7
  · intro i hi; rw [m_row (by omega)]; exact h8 i hi
  · rw [m_own, u_n (by omega)]; exact h9
  · rw [m_own, u_n (by omega)]; exact h10
theorem YM.pop {T p o s : Nat} {M0 M : hMem} {z : Int32} {H : List Nat} {c : List Int32} (h : YM T M0 z p o (s :: H) c M) {v : Int32} (hv : v = nI H.length) : YM T M0 z p o H c (h_up M 0 31 v) := by
  obtain ⟨h1, h2, h3, h4, h5, h6, h7, h8, h9, h10⟩ := h
  subst hv
  refine ⟨?_, ?_, ?_, ?_, ?_, ?_, ?_, ?_, ?_, ?_⟩
  · intro a a1 a2 a3; rw [m_row a1]; exact h1 a a1 a2 a3
  · intro j hj
    have : j ≠ 31 := by unfold kY at hj; omega
    rw [m_own, u_n this]; exact h2 j hj
  · intro j hj; rw [m_row (by omega)]; exact h3 j hj
  · rw [m_own, u_s]
  · rw [m_own, u_n (by omega)]; exact h5
  · rw [m_own, u_n (by omega)]; exact h6
  · rw [m_row (by omega)]; exact h7.2.2
  · intro i hi; rw [m_row (by omega)]; exact h8 i hi
  · rw [m_own, u_n (by omega)]; exact h9
  · rw [m_own, u_n (by omega)]; exact h10
theorem YM.holds {T p o s : Nat} {M0 M : hMem} {z : Int32} {H : List Nat} {c : List Int32} (h : YM T M0 z p o H c M) (hH : H.length < 200) (hs : s = 0 ∨ (11 ≤ s ∧ s < 20)) : ∃ M', fX10_holds (nI s) M = some M' ∧ YM T M0 z p o (s :: H) c M' := by
  obtain ⟨h1, h2, h3, h4, h5, h6, h7, h8, h9, h10⟩ := h
  unfold fX10_holds
  rw [h4, if_pos (ib_mk (by omega) (by omega)), nI_clamp (by omega)]
  refine ⟨_, rfl, ?_, ?_, ?_, ?_, ?_, ?_, ?_, ?_, ?_, ?_⟩
  · intro a a1 a2 a3; simp (disch := omega) only [m_row]; exact h1 a a1 a2 a3
  · intro j hj
    have : j ≠ 31 := by unfold kY at hj; omega
    simp (disch := omega) only [m_own, m_row, u_n]; exact h2 j hj
  · intro j hj; simp (disch := omega) only [m_row]; exact h3 j hj
  · simp (disch := omega) only [m_own, m_row, u_s]; rw [h4, nI_1]; rfl
  · simp (disch := omega) only [m_own, m_row, u_n]; exact h5
  · simp (disch := omega) only [m_own, m_row, u_n]; exact h6
  · simp (disch := omega) only [m_own, m_row]
    exact ⟨u_s _ _ _, hs, h7.up (Nat.le_refl _)⟩
  · intro i hi; simp (disch := omega) only [m_row]; exact h8 i hi
  · simp (disch := omega) only [m_own, m_row, u_n]; exact h9
  · simp (disch := omega) only [m_own, m_row, u_n]; exact h10
theorem rk_m : ∀ s, s < 20 → ∀ M : hMem, fX10_rank (nI s) M = nI (rkS s) := fun s hs M => of_decide_eq_true (h_forall (N := 20) (p := fun s => decide (fX10_rank (nI s) hM0 = nI (rkS s))) (by decide +kernel) hs)
theorem rk_b : ∀ s, s < 20 → rkS s ≤ 7 := by decide
theorem rk_0 : ∀ s, s < 20 → (rkS s = 0 ↔ s = 0) := by decide
theorem tr_s : ∀ s, s < 20 → 11 ≤ s → trW (-(nI s)) = nI s := by decide
theorem unw_len (l : Nat) : ∀ (H : List Nat) (c : List Int32), (unw l H c).1.length + (unw l H c).2.length = H.length + c.length
  | [], c => rfl
  | s :: H, c => by
    rw [unw_c]
    by_cases h : rkS s < l
    · rw [if_pos h]
    · rw [if_neg h, unw_len l H _, List.length_append]
      show H.length + (c.length + 1) = H.length + 1 + c.length
      omega
theorem m_unw {T p l : Nat} {M0 : hMem} {z : Int32} (hT : T < 6) (h14 : M0 0 14 = nI T) (hl : 1 ≤ l) (hl8 : l ≤ 8) : ∀ (H : List Nat) (c : List Int32) (M : hMem) (fuel : Nat), H.length < fuel → H.length + c.length ≤ 160 → YM T M0 z p (opn H) H c M → ∃ M', h_lp (fX10_unwinds_L0 (nI l)) fuel M = some M' ∧ YM T M0 z p (opn (unw l H c).1) (unw l H c).1 (unw l H c).2 M'
  | [], c, M, fuel, hf, _, h => by
    obtain ⟨g, rfl⟩ : ∃ g, fuel = g + 1 := ⟨fuel - 1, by have : 0 < fuel := hf; omega⟩
    have h4 : M 0 31 = (0 : Int32) := h.2.2.2.1
    refine ⟨M, ?_, h⟩
    rw [lp_s]
    unfold fX10_unwinds_L0
    rw [h4, if_pos (by decide)]
  | s :: H, c, M, fuel, hf, hlen, h => by
    obtain ⟨g, rfl⟩ : ∃ g, fuel = g + 1 := ⟨fuel - 1, by have : H.length + 1 < fuel := hf; omega⟩
    have hf' : H.length < g := by have : H.length + 1 < g + 1 := hf; omega
    have hlen' : H.length + 1 + c.length ≤ 160 := hlen
    have h4 : M 0 31 = nI (H.length + 1) := h.2.2.2.1
    have h5 : M 0 32 = nI (opn (s :: H)) := h.2.2.2.2.1
    have h7 := h.2.2.2.2.2.2.1
    have hs20 : s < 20 := by have := h7.2.1; omega
    have e31 : M 0 31 - 1 = nI H.length := by rw [h4, nI_sub1 (by omega)]; rfl
    rw [lp_s]
    unfold fX10_unwinds_L0
    simp only [e31, nI_clamp (show H.length < 2 ^ 31 by omega), h7.1, rk_m s hs20]
    rw [h4, if_neg (show ¬ nI (H.length + 1) ≤ (0 : Int32) from nI_ge (a := 0) (by omega) (by omega)), if_pos (ib_mk (by omega) (by omega)), unw_c]
    by_cases hr : rkS s < l
    · rw [if_pos (nI_lt hr (by omega)), if_pos hr]
      exact ⟨M, rfl, h⟩
    · have hrb := rk_b s hs20
      have hs0 : s ≠ 0 := fun e => by rw [e] at hr; exact hr (show 0 < l by omega)
      have hs11 : 11 ≤ s := by have := h7.2.1; omega
      rw [if_neg (nI_nlt (by omega) (by omega)), if_neg hr]
      have hp := h.pop (v := nI H.length) rfl
      have p18 : h_up M 0 31 (nI H.length) 18 H.length = nI s := by rw [m_row (by omega)]; exact h7.1
      have p31 : h_up M 0 31 (nI H.length) 0 31 = nI H.length := by rw [m_own, u_s]
      have p32 : h_up M 0 31 (nI H.length) 0 32 = nI (opn (s :: H)) := by rw [m_own, u_n (by omega)]; exact h5
      generalize h_up M 0 31 (nI H.length) = M1 at hp p18 p31 p32 ⊢
      simp only [p31, nI_clamp (show H.length < 2 ^ 31 by omega), p18, p32]
      rw [if_pos (ib_mk (by omega) (by omega))]
      have fin : ∀ v, v = nI (opn H) → ∃ M', (fX10_puts (nI s) (h_up M1 0 32 v)).bind (fun q73 => h_lp (fX10_unwinds_L0 (nI l)) g q73) = some M' ∧ YM T M0 z p (opn (unw l H (c ++ [-(nI s)])).1) (unw l H (c ++ [-(nI s)])).1 (unw l H (c ++ [-(nI s)])).2 M' := fun v hv => by
        have hq := hp.opd hv
        obtain ⟨M2, a1, a2⟩ := hq.puts hT h14 (by omega) (-(nI s))
        rw [tr_s s hs20 hs11] at a1
        rw [a1, Option.bind_some]
        exact m_unw hT h14 hl hl8 H (c ++ [-(nI s)]) M2 g hf' (by rw [List.length_append]; show H.length + (c.length + 1) ≤ 160; omega) a2
      have opn1 : (s = 13 ∨ s = 19) → opn (s :: H) = opn H + 1 := fun q => by
        show opn H + (if s = 0 ∨ s = 13 ∨ s = 19 then 1 else 0) = _
        rw [if_pos (Or.inr q)]
      have opn0 : ¬ (s = 13 ∨ s = 19) → opn (s :: H) = opn H := fun q => by
        show opn H + (if s = 0 ∨ s = 13 ∨ s = 19 then 1 else 0) = _
        rw [if_neg (fun r => r.elim hs0 q)]; rfl
      by_cases c13 : s = 13
      · rw [if_pos (show nI s = 13 by rw [c13]; rfl)]
        unfold fX10_unwinds_L62
        exact fin _ (by rw [opn1 (Or.inl c13), nI_sub1 (by omega)]; rfl)
      rw [if_neg (show ¬ nI s = 13 from nI_neq 13 (by omega) (by omega) c13)]
      by_cases c19 : s = 19
      · rw [if_pos (show nI s = 19 by rw [c19]; rfl)]
        unfold fX10_unwinds_L62
        exact fin _ (by rw [opn1 (Or.inr c19), nI_sub1 (by omega)]; rfl)
      rw [if_neg (show ¬ nI s = 19 from nI_neq 19 (by omega) (by omega) c19)]
      exact fin _ (by rw [opn0 (fun q => q.elim c13 c19), Int32.sub_zero])
/-- the signs held are signs -/
def oks (H : List Nat) : Prop := ∀ s, s ∈ H → s = 0 ∨ (11 ≤ s ∧ s < 20)
theorem hld.oks {r : Nat → Int32} : ∀ {H : List Nat}, hld r H → oks H
  | [], _ => fun s hs => by cases hs
  | s :: H, h => fun t ht => by
    rcases List.mem_cons.mp ht with e | e
    · rw [e]; exact h.2.1
    · exact h.2.2.oks t e
theorem m_unwinds {T p l : Nat} {M0 M : hMem} {z : Int32} {H : List Nat} {c : List Int32} (hT : T < 6) (h14 : M0 0 14 = nI T) (hl : 1 ≤ l) (hl8 : l ≤ 8) (hlen : H.length + c.length ≤ 160) (h : YM T M0 z p (opn H) H c M) : ∃ M', fX10_unwinds (nI l) M = some M' ∧ YM T M0 z p (opn (unw l H c).1) (unw l H c).1 (unw l H c).2 M' := m_unw hT h14 hl hl8 H c M h_FU (by unfold h_FU; omega) hlen h
theorem m_opens {T p s : Nat} {M0 M : hMem} {z : Int32} {H : List Nat} {c : List Int32} (hs : s = 0 ∨ s = 13 ∨ s = 19) (hH : H.length < 200) (h : YM T M0 z p (opn H) H c M) : (opn H = 5 → fX10_opensOne (nI s) M = some (0, M)) ∧ (opn H ≠ 5 → opn H < 2 ^ 30 → ∃ M', fX10_opensOne (nI s) M = some (1, M') ∧ YM T M0 z p (opn (s :: H)) (s :: H) c M') := by
  have h5 := h.2.2.2.2.1
  unfold fX10_opensOne
  rw [h5]
  refine ⟨fun e => by rw [e, if_pos (by decide)], fun e hb => ?_⟩
  rw [if_neg (show ¬ nI (opn H) = 5 from nI_neq 5 (by omega) (by omega) e), nI_1]
  obtain ⟨M', a1, a2⟩ := (h.opd (o' := opn H + 1) rfl).holds hH (s := s) (by omega)
  rw [a1, Option.bind_some]
  refine ⟨M', rfl, ?_⟩
  rw [show opn (s :: H) = opn H + 1 from by show opn H + (if s = 0 ∨ s = 13 ∨ s = 19 then 1 else 0) = _; rw [if_pos hs]]
  exact a2
theorem m_btw {T p s : Nat} {M0 M : hMem} {z : Int32} {H : List Nat} {c : List Int32} (hT : T < 6) (h14 : M0 0 14 = nI T) (hs : 11 ≤ s ∧ s < 19) (hs13 : s ≠ 13) (hlen : H.length + c.length ≤ 160) (h : YM T M0 z p (opn H) H c M) : (rkS s = 4 ∧ rk4 (unw 5 H c).1 = true → ∃ M' o H' c', fX10_between (nI s) M = some (0, M') ∧ YM T M0 z p o H' c' M') ∧ (¬ (rkS s = 4 ∧ rk4 (unw 5 H c).1 = true) → ∃ M', fX10_between (nI s) M = some (1, M') ∧ YM T M0 z p (opn (s :: (unw (lst (rkS s)) H c).1)) (s :: (unw (lst (rkS s)) H c).1) (unw (lst (rkS s)) H c).2 M') := by
  have hs20 : s < 20 := by omega
  have hrb := rk_b s hs20
  have hr0 : rkS s ≠ 0 := fun e => by have := (rk_0 s hs20).mp e; omega
  have opn0 : ∀ G, opn (s :: G) = opn G := fun G => by
    show opn G + (if s = 0 ∨ s = 13 ∨ s = 19 then 1 else 0) = _
    rw [if_neg (by omega)]; rfl
  have hll : 1 ≤ lst (rkS s) ∧ lst (rkS s) ≤ 8 := by
    unfold lst
    by_cases e : rkS s = 4
    · rw [if_pos e]; omega
    · rw [if_neg e]; omega
  have ebt : fX10_between (nI s) M = fX10_between_L17 (nI s) (nI (lst (rkS s))) M := by
    unfold fX10_between lst
    rw [rk_m s hs20]
    by_cases e : rkS s = 4
    · rw [if_pos (show nI (rkS s) = 4 by rw [e]; rfl), if_pos e]; rfl
    · rw [if_neg (show ¬ nI (rkS s) = 4 from nI_neq 4 (by omega) (by omega) e), if_neg e]
  obtain ⟨M1, a1, a2⟩ := m_unwinds hT h14 hll.1 hll.2 hlen h
  have hul := unw_len (lst (rkS s)) H c
  rw [ebt]
  unfold fX10_between_L17
  rw [a1, Option.bind_some, rk_m s hs20]
  have hold : ∃ M', (fX10_holds (nI s) M1).bind (fun q57 => some ((1 : Int32), q57)) = some (1, M') ∧ YM T M0 z p (opn (s :: (unw (lst (rkS s)) H c).1)) (s :: (unw (lst (rkS s)) H c).1) (unw (lst (rkS s)) H c).2 M' := by
    obtain ⟨M2, b1, b2⟩ := a2.holds (s := s) (by omega) (by omega)
    rw [b1, Option.bind_some]
    exact ⟨M2, rfl, by rw [opn0]; exact b2⟩
  by_cases e : rkS s = 4
  · have el : lst (rkS s) = 5 := by unfold lst; rw [if_pos e]
    rw [el] at a2 hold hul ⊢
    rw [if_pos (show nI (rkS s) = 4 by rw [e]; rfl)]
    cases hU : (unw 5 H c).1 with
    | nil =>
      rw [hU] at a2 hold
      have h31 : M1 0 31 = (0 : Int32) := a2.2.2.2.1
      rw [h31, if_pos (by decide)]
      exact ⟨fun q => absurd q.2 (by decide), fun _ => hold⟩
    | cons t G =>
      rw [hU] at a2 hold hul
      have hul' : G.length + 1 + (unw 5 H c).2.length = H.length + c.length := hul
      have h31 : M1 0 31 = nI (G.length + 1) := a2.2.2.2.1
      have h7 := a2.2.2.2.2.2.2.1
      have ht20 : t < 20 := by have := h7.2.1; omega
      have htb := rk_b t ht20
      rw [h31, if_neg (show ¬ nI (G.length + 1) ≤ (0 : Int32) from nI_ge (a := 0) (by omega) (by omega)), nI_sub1 (by omega), show G.length + 1 - 1 = G.length from rfl, if_pos (ib_mk (by omega) (by omega)), nI_clamp (by omega), h7.1, rk_m t ht20]
      by_cases e4 : rkS t = 4
      · rw [if_pos (show nI (rkS t) = 4 by rw [e4]; rfl)]
        exact ⟨fun _ => ⟨M1, _, _, _, rfl, a2⟩, fun q => absurd ⟨e, decide_eq_true e4⟩ q⟩
      · rw [if_neg (show ¬ nI (rkS t) = 4 from nI_neq 4 (by omega) (by omega) e4)]
        exact ⟨fun q => absurd (of_decide_eq_true q.2) e4, fun _ => hold⟩
  · rw [if_neg (show ¬ nI (rkS s) = 4 from nI_neq 4 (by omega) (by omega) e)]
    exact ⟨fun q => absurd q.1 e, fun _ => hold⟩
end
section
/-! TEXT: the other one reads an E as the yard does -/
def tkl : List Int32 := [0, 1, 2, 3, 4, 5, 6, 7, 8, 9, 40, 41, 59, 43, 45, 42, 60, 61]
theorem ky_in : ∀ w, w < 13 → kyV w ∈ tkl := by decide
theorem sgn_in {v : Int32} (h : sgn v = true) : v ∈ tkl := by
  unfold sgn fX5_isSign at h
  by_cases c1 : v = 40
  · subst c1; decide
  by_cases c2 : v = 41
  · subst c2; decide
  by_cases c3 : v = 59
  · subst c3; decide
  by_cases c4 : v = 43
  · subst c4; decide
  by_cases c5 : v = 45
  · subst c5; decide
  by_cases c6 : v = 42
  · subst c6; decide
  by_cases c7 : v = 60
  · subst c7; decide
  by_cases c8 : v = 61
  · subst c8; decide
  rw [if_neg c1, if_neg c2, if_neg c3, if_neg c4, if_neg c5, if_neg c6, if_neg c7, if_neg c8] at h
  exact absurd h (by decide)
theorem tK_in (b : Nat → Int32) (n i : Nat) : tK b n i ∈ tkl := by
  unfold tK
  by_cases c1 : n ≤ i
  · rw [if_pos c1]; decide
  rw [if_neg c1]
  by_cases c2 : dig (b i) = true
  · rw [if_pos c2]
    by_cases c3 : tEnd b n i - i ≤ 4
    · rw [if_pos c3]; decide
    · rw [if_neg c3]; decide
  rw [if_neg c2]
  by_cases c4 : ltr (b i) = true
  · rw [if_pos c4]
    by_cases c5 : 1 ≤ tW b n i ∧ tW b n i ≤ 6
    · rw [if_pos c5]; decide
    · rw [if_neg c5]; exact ky_in _ (wrd_lt b n i _)
  rw [if_neg c4]
  by_cases c6 : sgn (b i) = true
  · rw [if_pos c6]; exact sgn_in c6
  · rw [if_neg c6]; decide
def sgM (v : Int32) : Int32 := if v = 4 then 11 else (if v = 5 then 12 else (if v = 60 then 14 else (if v = 61 then 15 else (if v = 43 then 16 else (if v = 45 then 17 else (if v = 42 then 18 else (-1)))))))
theorem mK_1 : ∀ v, v ∈ tkl → (mK v = 1 ↔ v = 2) := by decide
theorem mK_2 : ∀ v, v ∈ tkl → (mK v = 2 ↔ v = 3) := by decide
theorem mK_6 : ∀ v, v ∈ tkl → (mK v = 6 ↔ v = 9) := by decide
theorem mK_45 : ∀ v, v ∈ tkl → (mK v = 45 ↔ v = 45) := by decide
theorem mK_40 : ∀ v, v ∈ tkl → (mK v = 40 ↔ v = 40) := by decide
theorem mK_59 : ∀ v, v ∈ tkl → (mK v = 59 ↔ v = 59) := by decide
theorem mK_41 : ∀ v, v ∈ tkl → (mK v = 41 ↔ v = 41) := by decide
theorem mK_0 : ∀ v, v ∈ tkl → (mK v = 0 ↔ v = 0) := by decide
theorem mK_3 : ∀ v, v ∈ tkl → (mK v = 3 ↔ v = 4 ∨ v = 5 ∨ v = 6) := by decide
theorem mK_s : ∀ v, v ∈ tkl → sgM (mK v) = if sgS v = 0 then -1 else nI (sgS v) := by decide
theorem sgS_r (v : Int32) : sgS v = 0 ∨ (11 ≤ sgS v ∧ sgS v < 19 ∧ sgS v ≠ 13) := by
  unfold sgS
  repeat (split; · exact Or.inr (by decide))
  exact Or.inl rfl
def enc (st : Option Bool) (v1 v2 : Int32) : Prop := match st with
  | some fl => v1 = 1 ∧ v2 = if fl = true then 1 else 0
  | none => v1 = 0
def SR (T : Nat) (M0 : hMem) (z : Int32) (p : Nat) (res : Except (Option (List Int32)) (Option Bool × List Nat × List Int32)) (A : (Int32 × Int32 × hMem → Option (Int32 × hMem)) → Option (Int32 × hMem)) : Prop := match res with
  | .ok s' => ∃ v1 v2 M', (∀ kont, A kont = kont (v1, v2, M')) ∧ enc s'.1 v1 v2 ∧ YM T M0 z p (opn s'.2.1) s'.2.1 s'.2.2 M'
  | .error none => ∃ M' o H' c', (∀ kont, A kont = some (0, M')) ∧ YM T M0 z p o H' c' M'
  | .error (some c') => ∃ M' o, (∀ kont, A kont = some (1, M')) ∧ YM T M0 z p o [] c' M'
/-- what the tokens' values are -/
def VOK (K V : Nat → Int32) : Prop := ∀ k, (K k = 2 → trW (V k) = 100000 + V k) ∧ (K k = 3 → trW (-1 - V k) = V k)
theorem opn_len : ∀ H : List Nat, opn H ≤ H.length
  | [] => Nat.le_refl _
  | s :: H => by
    have := opn_len H
    show opn H + (if s = 0 ∨ s = 13 ∨ s = 19 then 1 else 0) ≤ H.length + 1
    split <;> omega
/-- one token where an operand is wanted -/
theorem m_stO {T p k E : Nat} {K V : Nat → Int32} {M0 r : hMem} {z : Int32} {H : List Nat} {c : List Int32} {v2 : Int32} {fl : Bool} (hT : T < 6) (h14 : M0 0 14 = nI T) (hE : tkE E K) (hk : k ≤ E) (hlen : H.length + c.length ≤ k) (hin : K k ∈ tkl) (hV : VOK K V) (h : YM T M0 z p (opn H) H c r) (h27 : r 0 27 = mK (K k)) (h28 : (K k = 2 ∨ K k = 3) → r 0 28 = V k) (hv2 : v2 = if fl = true then 1 else 0) : SR T M0 z p (yO K V k fl H c) (fun k14 => if (r 0 27) = 1 then (fX10_eRead_L38 k14 v2 r) else (if (r 0 27) = 2 then (fX10_eRead_L38 k14 v2 r) else (if (r 0 27) = 6 then (if v2 = 0 then (fX10_eRead_L99 k14 1 r) else ((fX10_opensOne 13 r).bind fun q91 => if q91.1 = 0 then (some (0, q91.2)) else (k14 (1, v2, q91.2)))) else (fX10_eRead_L99 k14 1 r)))) := by
  have hE160 := hE.1
  have hol := opn_len H
  have lit : ∀ m : Int32, K k = m → m ≠ 0 → m ≠ 1 → k < E := fun m e n0 n1 => hE.lt hk (by rw [e]; exact n0) (by rw [e]; exact n1)
  have put : ∀ w t, k < E → t = trW w → ∃ M', (∀ k14 : Int32 × Int32 × hMem → Option (Int32 × hMem), fX10_eRead_L61 k14 v2 t r = k14 (0, v2, M')) ∧ YM T M0 z p (opn (unw 7 H (c ++ [w])).1) (unw 7 H (c ++ [w])).1 (unw 7 H (c ++ [w])).2 M' := fun w t hlt ht => by
    obtain ⟨M1, a1, a2⟩ := h.puts hT h14 (by omega) w
    obtain ⟨M2, b1, b2⟩ := m_unwinds (l := 7) hT h14 (by omega) (by omega) (by rw [List.length_append]; show H.length + (c.length + 1) ≤ 160; omega) a2
    refine ⟨M2, fun k14 => ?_, b2⟩
    unfold fX10_eRead_L61
    rw [ht, a1, Option.bind_some, show fX10_unwinds 7 M1 = fX10_unwinds (nI 7) M1 from rfl, b1, Option.bind_some]
  have opens : ∀ s, (s = 0 ∨ s = 13 ∨ s = 19) → ∀ (a b' : Int32) (fl' : Bool), a = 1 → b' = (if fl' = true then 1 else 0) → SR T M0 z p (if opn H = 5 then .error none else .ok (some fl', s :: H, c)) (fun k14 => (fX10_opensOne (nI s) r).bind fun q91 => if q91.1 = 0 then (some (0, q91.2)) else (k14 (a, b', q91.2))) := fun s hs a b' fl' ha hb' => by
    obtain ⟨o1, o2⟩ := m_opens hs (by omega) h
    by_cases e : opn H = 5
    · rw [if_pos e]
      refine ⟨r, _, _, _, fun k14 => ?_, h⟩
      show ((fX10_opensOne (nI s) r).bind _) = _
      rw [o1 e, Option.bind_some, if_pos rfl]
    · obtain ⟨M', a1, a2⟩ := o2 e (by omega)
      rw [if_neg e]
      refine ⟨a, b', M', fun k14 => ?_, ⟨ha, hb'⟩, a2⟩
      show ((fX10_opensOne (nI s) r).bind _) = _
      rw [a1, Option.bind_some, if_neg (show ¬ (1 : Int32) = 0 by decide)]
  unfold yO
  rw [h27]
  by_cases c2 : K k = 2
  · have hlt := lit 2 c2 (by decide) (by decide)
    obtain ⟨M', a1, a2⟩ := put (V k) (100000 + V k) hlt ((hV k).1 c2).symm
    rw [if_pos c2]
    refine ⟨0, v2, M', fun k14 => ?_, rfl, a2⟩
    show (if mK (K k) = 1 then _ else _) = _
    rw [if_pos ((mK_1 _ hin).mpr c2)]
    unfold fX10_eRead_L38
    rw [h27, if_pos ((mK_1 _ hin).mpr c2), h28 (Or.inl c2)]
    exact a1 k14
  have n1 : ¬ mK (K k) = 1 := fun q => c2 ((mK_1 _ hin).mp q)
  rw [if_neg c2]
  by_cases c3 : K k = 3
  · have hlt := lit 3 c3 (by decide) (by decide)
    obtain ⟨M', a1, a2⟩ := put (-1 - V k) (V k) hlt ((hV k).2 c3).symm
    rw [if_pos c3]
    refine ⟨0, v2, M', fun k14 => ?_, rfl, a2⟩
    show (if mK (K k) = 1 then _ else _) = _
    rw [if_neg n1, if_pos ((mK_2 _ hin).mpr c3)]
    unfold fX10_eRead_L38
    rw [h27, if_neg n1, h28 (Or.inr c3)]
    exact a1 k14
  have n2 : ¬ mK (K k) = 2 := fun q => c3 ((mK_2 _ hin).mp q)
  rw [if_neg c3]
  simp only [if_neg n1, if_neg n2]
  have l99 : SR T M0 z p (if K k = 45 then (if opn H = 5 then .error none else .ok (some false, 19 :: H, c)) else if K k = 40 then (if opn H = 5 then .error none else .ok (some true, 0 :: H, c)) else .error none) (fun k14 => fX10_eRead_L99 k14 1 r) := by
    unfold fX10_eRead_L99
    rw [h27]
    by_cases c45 : K k = 45
    · simp only [if_pos c45, if_pos ((mK_45 _ hin).mpr c45)]
      exact opens 19 (Or.inr (Or.inr rfl)) 1 0 false rfl rfl
    simp only [if_neg c45, if_neg (fun q => c45 ((mK_45 _ hin).mp q))]
    by_cases c40 : K k = 40
    · simp only [if_pos c40, if_pos ((mK_40 _ hin).mpr c40)]
      exact opens 0 (Or.inl rfl) 1 1 true rfl rfl
    simp only [if_neg c40, if_neg (fun q => c40 ((mK_40 _ hin).mp q))]
    exact ⟨r, _, _, _, fun k14 => rfl, h⟩
  by_cases c9 : K k = 9
  · simp only [if_pos ((mK_6 _ hin).mpr c9)]
    cases fl with
    | true =>
      have e2 : v2 = 1 := hv2
      rw [if_pos ⟨c9, rfl⟩]
      simp only [e2, if_neg (show ¬ (1 : Int32) = 0 by decide)]
      exact opens 13 (Or.inr (Or.inl rfl)) 1 1 true rfl rfl
    | false =>
      have e2 : v2 = 0 := hv2
      rw [if_neg (fun q => by cases q.2)]
      simp only [e2, if_pos rfl]
      exact l99
  · simp only [if_neg (fun q => c9 ((mK_6 _ hin).mp q))]
    rw [if_neg (fun q => c9 q.1)]
    exact l99
/-- one token where none is wanted -/
theorem m_stN {T p k E : Nat} {K : Nat → Int32} {M0 r : hMem} {z : Int32} {H : List Nat} {c : List Int32} {a0 b0 : Int32} (hT : T < 6) (h14 : M0 0 14 = nI T) (hE : tkE E K) (hk : k ≤ E) (hlen : H.length + c.length ≤ k) (hin : K k ∈ tkl) (h : YM T M0 z p (opn H) H c r) (h27 : r 0 27 = mK (K k)) (ha0 : a0 = 0) : SR T M0 z p (yN K k H c) (fun k14 => if (r 0 27) = 59 then ((fX10_unwinds 1 r).bind fun q161 => if (q161 0 31) = 0 then (some (1, q161)) else (some (0, q161))) else (if (r 0 27) = 41 then ((fX10_unwinds 1 r).bind fun q188 => if (q188 0 31) = 0 then (some (0, q188)) else ((fX10_unwinds 7 (h_up (h_up q188 0 31 ((q188 0 31) - 1)) 0 32 (((h_up q188 0 31 ((q188 0 31) - 1)) 0 32) - 1))).bind fun q223 => k14 (a0, b0, q223))) else (if (fX10_signOf r) = (-1) then (some (0, r)) else ((fX10_between (fX10_signOf r) r).bind fun q241 => if q241.1 = 0 then (some (0, q241.2)) else (if 12 < (fX10_signOf r) then (k14 (1, 0, q241.2)) else (k14 (1, 1, q241.2))))))) := by
  have hE160 := hE.1
  have hlen160 : H.length + c.length ≤ 160 := by omega
  obtain ⟨M1, a1, a2⟩ := m_unwinds (l := 1) hT h14 (by omega) (by omega) hlen160 h
  have a1' : fX10_unwinds 1 r = some M1 := a1
  have hul := unw_len 1 H c
  have hsg : fX10_signOf r = sgM (r 0 27) := rfl
  unfold yN
  rw [h27]
  by_cases c59 : K k = 59
  · rw [if_pos c59]
    simp only [if_pos ((mK_59 _ hin).mpr c59), a1', Option.bind_some]
    have h31 : M1 0 31 = nI (unw 1 H c).1.length := a2.2.2.2.1
    by_cases e : (unw 1 H c).1 = []
    · rw [if_pos e]
      rw [e] at a2 h31
      refine ⟨M1, _, fun k14 => ?_, a2⟩
      show (if M1 0 31 = 0 then _ else _) = _
      rw [if_pos (show M1 0 31 = 0 from h31)]
    · rw [if_neg e]
      refine ⟨M1, _, _, _, fun k14 => ?_, a2⟩
      show (if M1 0 31 = 0 then _ else _) = _
      rw [h31, if_neg (show ¬ nI (unw 1 H c).1.length = 0 from nI_neq 0 (by omega) (by omega) (fun q => e (List.length_eq_zero_iff.mp q)))]
  rw [if_neg c59]
  by_cases c41 : K k = 41
  · rw [if_pos c41]
    have n59 : ¬ mK (K k) = 59 := fun q => c59 ((mK_59 _ hin).mp q)
    simp only [if_neg n59, if_pos ((mK_41 _ hin).mpr c41), a1', Option.bind_some]
    cases hU : (unw 1 H c).1 with
    | nil =>
      rw [hU] at a2
      have h31 : M1 0 31 = 0 := a2.2.2.2.1
      refine ⟨M1, _, _, _, fun k14 => ?_, a2⟩
      show (if M1 0 31 = 0 then _ else _) = _
      rw [if_pos h31]
    | cons t G =>
      rw [hU] at a2 hul
      have hul' : G.length + 1 + (unw 1 H c).2.length = H.length + c.length := hul
      have h31 : M1 0 31 = nI (G.length + 1) := a2.2.2.2.1
      have h32 : M1 0 32 = nI (opn (t :: G)) := a2.2.2.2.2.1
      have ht : t = 0 := by
        have h7 := a2.2.2.2.2.2.2.1
        have ht20 : t < 20 := by have := h7.2.1; omega
        have hrk : rkS t < 1 := by
          have : ∀ (H : List Nat) (c : List Int32), (unw 1 H c).1 = t :: G → rkS t < 1 := by
            intro H
            induction H with
            | nil => intro c e; cases e
            | cons s H ih =>
              intro c e
              rw [unw_c] at e
              by_cases hs : rkS s < 1
              · rw [if_pos hs] at e; cases e; exact hs
              · rw [if_neg hs] at e; exact ih _ e
          exact this H c hU
        exact (rk_0 t ht20).mp (by omega)
      subst ht
      have hop : opn (0 :: G) = opn G + 1 := rfl
      have a3 := (a2.pop (v := M1 0 31 - 1) (by rw [h31, nI_sub1 (by omega)]; rfl)).opd (o' := opn G) (v := (h_up M1 0 31 (M1 0 31 - 1)) 0 32 - 1) (by rw [m_own, u_n (by omega), h32, hop, nI_sub1 (by omega)]; rfl)
      obtain ⟨M2, b1, b2⟩ := m_unwinds (l := 7) hT h14 (by omega) (by omega) (by omega) a3
      refine ⟨a0, b0, M2, fun k14 => ?_, ha0, b2⟩
      show (if M1 0 31 = 0 then _ else _) = _
      rw [if_neg (show ¬ M1 0 31 = 0 by rw [h31]; exact nI_neq 0 (by omega) (by omega) (by omega))]
      rw [show ∀ X, fX10_unwinds 7 X = fX10_unwinds (nI 7) X from fun _ => rfl, b1, Option.bind_some]
  rw [if_neg c41]
  have n59 : ¬ mK (K k) = 59 := fun q => c59 ((mK_59 _ hin).mp q)
  have n41 : ¬ mK (K k) = 41 := fun q => c41 ((mK_41 _ hin).mp q)
  rw [hsg, h27, mK_s _ hin]
  simp only [if_neg n59, if_neg n41]
  by_cases c0 : sgS (K k) = 0
  · simp only [if_pos c0, if_pos rfl]
    exact ⟨r, _, _, _, fun k14 => rfl, h⟩
  · obtain ⟨r1, r2, r3⟩ := (sgS_r (K k)).resolve_left c0
    simp only [if_neg c0]
    generalize sgS (K k) = s at c0 r1 r2 r3 ⊢
    have hm1 : ¬ nI s = -1 := n_m1 (by omega)
    simp only [if_neg hm1]
    obtain ⟨b1, b2⟩ := m_btw hT h14 ⟨r1, r2⟩ r3 hlen160 h
    by_cases e : rkS s = 4 ∧ rk4 (unw 5 H c).1 = true
    · obtain ⟨M', o, H', c', d1, d2⟩ := b1 e
      rw [if_pos e]
      simp only [d1, Option.bind_some, if_pos rfl]
      exact ⟨M', o, H', c', fun k14 => rfl, d2⟩
    · obtain ⟨M', d1, d2⟩ := b2 e
      rw [if_neg e]
      simp only [d1, Option.bind_some, if_neg (show ¬ (1 : Int32) = 0 by decide)]
      by_cases e12 : s ≤ 12
      · rw [decide_eq_true e12]
        simp only [if_neg (show ¬ (12 : Int32) < nI s from nI_nlt (b := s) (a := 12) e12 (by omega))]
        exact ⟨1, 1, M', fun k14 => rfl, ⟨rfl, rfl⟩, d2⟩
      · rw [decide_eq_false e12]
        simp only [if_pos (show (12 : Int32) < nI s from nI_lt (a := 12) (by omega) (by omega))]
        exact ⟨1, 0, M', fun k14 => rfl, ⟨rfl, rfl⟩, d2⟩
end
section
/-! TEXT: the other one reads an E -/
theorem yO_k {K V : Nat → Int32} {k : Nat} {fl : Bool} {H : List Nat} {c : List Int32} {s' : Option Bool × List Nat × List Int32} (e : yO K V k fl H c = .ok s') : K k ≠ 0 ∧ K k ≠ 1 ∧ s'.2.1.length + s'.2.2.length ≤ H.length + c.length + 1 := by
  have l1 : ∀ w, (unw 7 H (c ++ [w])).1.length + (unw 7 H (c ++ [w])).2.length = H.length + c.length + 1 := fun w => by
    rw [unw_len, List.length_append]; show H.length + (c.length + 1) = _; omega
  unfold yO at e
  by_cases c2 : K k = 2
  · rw [if_pos c2] at e; cases e
    exact ⟨by rw [c2]; decide, by rw [c2]; decide, Nat.le_of_eq (l1 _)⟩
  rw [if_neg c2] at e
  by_cases c3 : K k = 3
  · rw [if_pos c3] at e; cases e
    exact ⟨by rw [c3]; decide, by rw [c3]; decide, Nat.le_of_eq (l1 _)⟩
  rw [if_neg c3] at e
  have l2 : ∀ s : Nat, (s :: H).length + c.length ≤ H.length + c.length + 1 := fun s => by show H.length + 1 + c.length ≤ _; omega
  have op : ∀ (x : Option Bool × List Nat × List Int32), (if opn H = 5 then Except.error none else .ok x) = (.ok s' : Except (Option (List Int32)) (Option Bool × List Nat × List Int32)) → s' = x := fun x h => by
    by_cases q : opn H = 5
    · rw [if_pos q] at h; cases h
    · rw [if_neg q] at h; cases h; rfl
  by_cases c9 : K k = 9 ∧ fl = true
  · rw [if_pos c9] at e; rw [op _ e]
    exact ⟨by rw [c9.1]; decide, by rw [c9.1]; decide, l2 13⟩
  rw [if_neg c9] at e
  by_cases c45 : K k = 45
  · rw [if_pos c45] at e; rw [op _ e]
    exact ⟨by rw [c45]; decide, by rw [c45]; decide, l2 19⟩
  rw [if_neg c45] at e
  by_cases c40 : K k = 40
  · rw [if_pos c40] at e; rw [op _ e]
    exact ⟨by rw [c40]; decide, by rw [c40]; decide, l2 0⟩
  rw [if_neg c40] at e; cases e
theorem yO_n {K V : Nat → Int32} {k : Nat} {fl : Bool} {H : List Nat} {c c' : List Int32} : yO K V k fl H c ≠ .error (some c') := by
  intro e
  unfold yO at e
  by_cases c2 : K k = 2
  · rw [if_pos c2] at e; cases e
  rw [if_neg c2] at e
  by_cases c3 : K k = 3
  · rw [if_pos c3] at e; cases e
  rw [if_neg c3] at e
  have op : ∀ (x : Option Bool × List Nat × List Int32), (if opn H = 5 then Except.error none else .ok x) ≠ (.error (some c') : Except (Option (List Int32)) (Option Bool × List Nat × List Int32)) := fun x h => by
    by_cases q : opn H = 5
    · rw [if_pos q] at h; cases h
    · rw [if_neg q] at h; cases h
  by_cases c9 : K k = 9 ∧ fl = true
  · rw [if_pos c9] at e; exact op _ e
  rw [if_neg c9] at e
  by_cases c45 : K k = 45
  · rw [if_pos c45] at e; exact op _ e
  rw [if_neg c45] at e
  by_cases c40 : K k = 40
  · rw [if_pos c40] at e; exact op _ e
  rw [if_neg c40] at e; cases e
theorem yN_k {K : Nat → Int32} {k : Nat} {H : List Nat} {c : List Int32} : (∀ s', yN K k H c = .ok s' → K k ≠ 0 ∧ K k ≠ 1 ∧ s'.2.1.length + s'.2.2.length ≤ H.length + c.length + 1) ∧ ∀ c', yN K k H c = .error (some c') → K k ≠ 0 ∧ K k ≠ 1 ∧ c'.length ≤ H.length + c.length := by
  unfold yN
  have u1 := unw_len 1 H c
  by_cases c59 : K k = 59
  · rw [if_pos c59]
    by_cases q : (unw 1 H c).1 = []
    · rw [if_pos q]
      exact ⟨fun s' e => (by cases e), fun c' e => (by cases e; exact ⟨by rw [c59]; decide, by rw [c59]; decide, by omega⟩)⟩
    · rw [if_neg q]
      exact ⟨fun s' e => (by cases e), fun c' e => (by cases e)⟩
  rw [if_neg c59]
  by_cases c41 : K k = 41
  · rw [if_pos c41]
    cases hU : (unw 1 H c).1 with
    | nil => exact ⟨fun s' e => (by cases e), fun c' e => (by cases e)⟩
    | cons t G =>
      rw [hU] at u1
      have u1' : G.length + 1 + (unw 1 H c).2.length = H.length + c.length := u1
      refine ⟨fun s' e => ?_, fun c' e => (by cases e)⟩
      cases e
      have u2 := unw_len 7 G (unw 1 H c).2
      exact ⟨by rw [c41]; decide, by rw [c41]; decide, by show (unw 7 G (unw 1 H c).2).1.length + (unw 7 G (unw 1 H c).2).2.length ≤ _; omega⟩
  rw [if_neg c41]
  by_cases c0 : sgS (K k) = 0
  · rw [if_pos c0]; exact ⟨fun s' e => (by cases e), fun c' e => (by cases e)⟩
  rw [if_neg c0]
  have n01 : K k ≠ 0 ∧ K k ≠ 1 := ⟨fun q => c0 (by rw [q]; decide), fun q => c0 (by rw [q]; decide)⟩
  by_cases c4 : rkS (sgS (K k)) = 4 ∧ rk4 (unw 5 H c).1 = true
  · rw [if_pos c4]; exact ⟨fun s' e => (by cases e), fun c' e => (by cases e)⟩
  rw [if_neg c4]
  refine ⟨fun s' e => ?_, fun c' e => (by cases e)⟩
  cases e
  have u2 := unw_len (lst (rkS (sgS (K k)))) H c
  exact ⟨n01.1, n01.2, by show (unw (lst (rkS (sgS (K k)))) H c).1.length + 1 + (unw (lst (rkS (sgS (K k)))) H c).2.length ≤ _; omega⟩
abbrev ktF (b : Nat → Int32) (n : Nat) : Nat → Int32 := fun k => tK b n (plc b n k)
abbrev vtF (b : Nat → Int32) (n : Nat) : Nat → Int32 := fun k => tV b n (plc b n k)
theorem YM.tx {b : Nat → Int32} {n T p o : Nat} {M0 M : hMem} {z : Int32} {H : List Nat} {c : List Int32} (hTX : TXm b n M0) (h : YM T M0 z p o H c M) : TXm b n M := ⟨hTX.1, by rw [h.2.1 11 (by unfold kY; omega)]; exact hTX.2.1, fun i hi => by rw [h.1 9 (by omega) (by omega) (by omega)]; exact hTX.2.2.1 i hi, fun i hi => by rw [h.1 17 (by omega) (by omega) (by omega)]; exact hTX.2.2.2 i hi⟩
theorem YM.tok {b : Nat → Int32} {n q T p o : Nat} {M0 M r : hMem} {z : Int32} {H : List Nat} {c : List Int32} (h : YM T M0 z p o H c M) (hr : pTok b n q M r) : YM T M0 (nI q) (tEnd b n q) o H c r := by
  obtain ⟨h1, h2, h3, h4, h5, h6, h7, h8, h9, h10⟩ := h
  obtain ⟨r1, r2, r3, r4, r5, r6, r7⟩ := hr
  refine ⟨?_, ?_, ?_, ?_, ?_, ?_, ?_, ?_, r4, r3⟩
  · intro a a1 a2 a3; rw [r1 a a1]; exact h1 a a1 a2 a3
  · intro j hj; rw [r2 j (by unfold kY at hj; omega)]; exact h2 j hj
  · intro j hj; rw [r1 10 (by omega)]; exact h3 j hj
  · rw [r2 31 (by omega)]; exact h4
  · rw [r2 32 (by omega)]; exact h5
  · rw [r2 33 (by omega)]; exact h6
  · rw [r1 18 (by omega)]; exact h7
  · intro i hi; rw [r1 10 (by omega)]; exact h8 i hi
theorem m_run {b : Nat → Int32} {n T E : Nat} {M0 : hMem} (hT : T < 6) (h14 : M0 0 14 = nI T) (hTX : TXm b n M0) (hb : ∀ i, i < 160 → h_ib (b i) 256) (hE : tkE E (ktF b n)) (hV : VOK (ktF b n) (vtF b n)) : ∀ (g k : Nat) (s : Option Bool × List Nat × List Int32) (M : hMem) (v1 v2 z : Int32) (p fuel : Nat), YM T M0 z p (opn s.2.1) s.2.1 s.2.2 M → p ≤ n → spn blk b n 160 p = plc b n k → enc s.1 v1 v2 → s.2.1.length + s.2.2.length ≤ k → k ≤ E → g ≤ fuel → (∀ kf, yg (ktF b n) (vtF b n) g k s = .error kf → kf < k + g → ∃ M' p' o H' c', h_lp fX10_eRead_L14 fuel (v1, v2, M) = some (0, M') ∧ YM T M0 (nI (plc b n kf)) p' o H' c' M') ∧ ∀ c' k', yg (ktF b n) (vtF b n) g k s = .ok (c', k') → ∃ M' p' o z', h_lp fX10_eRead_L14 fuel (v1, v2, M) = some (1, M') ∧ YM T M0 z' p' o [] c' M' ∧ p' ≤ n ∧ spn blk b n 160 p' = plc b n k' ∧ c'.length ≤ k' ∧ k' ≤ E := by
  intro g
  induction g with
  | zero =>
    intro k s M v1 v2 z p fuel h hp hs he hl hk hf
    exact ⟨fun kf e h1 => (by cases e; omega), fun c' k' e => (by cases e)⟩
  | succ g ih =>
    intro k s M v1 v2 z p fuel h hp hs he hl hk hf
    obtain ⟨fu, rfl⟩ : ∃ fu, fuel = fu + 1 := ⟨fuel - 1, by omega⟩
    obtain ⟨st, H, c⟩ := s
    have hE160 := hE.1
    obtain ⟨r, r1, r2⟩ := m_next (h.tx hTX) hb hp h.2.2.2.2.2.2.2.2.1
    rw [hs] at r2
    have hr := h.tok r2
    obtain ⟨-, -, -, -, q27, q28, -⟩ := r2
    have hin : ktF b n k ∈ tkl := tK_in b n _
    have hSR : SR T M0 (nI (plc b n k)) (tEnd b n (plc b n k)) (yst (ktF b n) (vtF b n) k (st, H, c)) (fun k14 => fX10_eRead_L14 k14 (v1, v2, M)) := by
      unfold fX10_eRead_L14
      simp only [r1, Option.bind_some]
      cases st with
      | some fl =>
        obtain ⟨e1, e2⟩ := he
        subst e1
        simp only [if_neg (show ¬ (1 : Int32) = 0 by decide)]
        exact m_stO hT h14 hE hk hl hin hV hr q27 q28 e2
      | none =>
        have e1 : v1 = 0 := he
        subst e1
        simp only [if_pos rfl]
        exact m_stN hT h14 hE hk hl hin hr q27 rfl
    have hpl := plc_le b n k
    obtain ⟨t1, t2, t3⟩ := tEnd_le (b := b) hpl
    rw [lp_s]
    cases hy : yst (ktF b n) (vtF b n) k (st, H, c) with
    | ok s' =>
      rw [hy] at hSR
      obtain ⟨w1, w2, M', a1, a2, a3⟩ := hSR
      have hkl : ktF b n k ≠ 0 ∧ ktF b n k ≠ 1 ∧ s'.2.1.length + s'.2.2.length ≤ H.length + c.length + 1 := by
        cases st with
        | some fl => exact yO_k hy
        | none => exact yN_k.1 s' hy
      have hlt := hE.lt hk hkl.1 hkl.2.1
      have hl' : H.length + c.length ≤ k := hl
      have := ih (k + 1) s' M' w1 w2 _ (tEnd b n (plc b n k)) fu a3 t2 rfl a2 (by omega) hlt (by omega)
      rw [yg_ok hy, show fX10_eRead_L14 (h_lp fX10_eRead_L14 fu) (v1, v2, M) = h_lp fX10_eRead_L14 fu (w1, w2, M') from a1 _]
      exact ⟨fun kf e h1 => this.1 kf e (by omega), this.2⟩
    | error oc =>
      cases oc with
      | none =>
        rw [hy] at hSR
        obtain ⟨M', o, H', c', a1, a2⟩ := hSR
        rw [yg_er hy, show fX10_eRead_L14 (h_lp fX10_eRead_L14 fu) (v1, v2, M) = some (0, M') from a1 _]
        exact ⟨fun kf e _ => (by cases e; exact ⟨M', _, o, H', c', rfl, a2⟩), fun c' k' e => (by cases e)⟩
      | some cc =>
        rw [hy] at hSR
        obtain ⟨M', o, a1, a2⟩ := hSR
        have hkl : ktF b n k ≠ 0 ∧ ktF b n k ≠ 1 ∧ cc.length ≤ H.length + c.length := by
          cases st with
          | some fl => exact absurd hy yO_n
          | none => exact yN_k.2 cc hy
        have hlt := hE.lt hk hkl.1 hkl.2.1
        have hl' : H.length + c.length ≤ k := hl
        rw [yg_en hy, show fX10_eRead_L14 (h_lp fX10_eRead_L14 fu) (v1, v2, M) = some (1, M') from a1 _]
        exact ⟨fun kf e _ => (by cases e), fun c' k' e => by cases e; exact ⟨M', _, o, _, rfl, a2, t2, rfl, by omega, hlt⟩⟩
end
section
/-! TEXT: the other one reads a text -/
def YB (T : Nat) (M0 : hMem) (z : Int32) (p : Nat) (c : List Int32) (M : hMem) : Prop := (∀ a, a ≠ 0 → a ≠ 10 → a ≠ 18 → M a = M0 a) ∧ (∀ j, kY j → M 0 j = M0 0 j) ∧ (∀ j, j < 200 * T → M 10 j = M0 10 j) ∧ M 0 33 = nI c.length ∧ (∀ i, i < c.length → M 10 (200 * T + i) = trW (c.getD i 0)) ∧ M 0 25 = nI p ∧ M 0 26 = z
theorem YM.yb {T p o : Nat} {M0 M : hMem} {z : Int32} {H : List Nat} {c : List Int32} (h : YM T M0 z p o H c M) : YB T M0 z p c M := by
  obtain ⟨h1, h2, h3, h4, h5, h6, h7, h8, h9, h10⟩ := h
  exact ⟨h1, h2, h3, h6, h8, h9, h10⟩
theorem YB.ym {T p : Nat} {M0 M : hMem} {z : Int32} {c : List Int32} (h : YB T M0 z p c M) : YM T M0 z p 0 [] c (h_up (h_up M 0 31 0) 0 32 0) := by
  obtain ⟨h1, h2, h3, h6, h8, h9, h10⟩ := h
  refine ⟨?_, ?_, ?_, ?_, ?_, ?_, trivial, ?_, ?_, ?_⟩
  · intro a a1 a2 a3; simp (disch := omega) only [m_row]; exact h1 a a1 a2 a3
  · intro j hj
    have : j ≠ 31 ∧ j ≠ 32 := by unfold kY at hj; omega
    simp (disch := omega) only [m_own, u_n]; exact h2 j hj
  · intro j hj; simp (disch := omega) only [m_row]; exact h3 j hj
  · simp (disch := omega) only [m_own, u_n, u_s]; rfl
  · simp (disch := omega) only [m_own, u_s]; rfl
  · simp (disch := omega) only [m_own, u_n]; exact h6
  · intro i hi; simp (disch := omega) only [m_row]; exact h8 i hi
  · simp (disch := omega) only [m_own, u_n]; exact h9
  · simp (disch := omega) only [m_own, u_n]; exact h10
theorem YB.tok {b : Nat → Int32} {n q T p : Nat} {M0 M r : hMem} {z : Int32} {c : List Int32} (h : YB T M0 z p c M) (hr : pTok b n q M r) : YB T M0 (nI q) (tEnd b n q) c r := by
  obtain ⟨h1, h2, h3, h6, h8, h9, h10⟩ := h
  obtain ⟨r1, r2, r3, r4, r5, r6, r7⟩ := hr
  refine ⟨?_, ?_, ?_, ?_, ?_, r4, r3⟩
  · intro a a1 a2 a3; rw [r1 a a1]; exact h1 a a1 a2 a3
  · intro j hj; rw [r2 j (by unfold kY at hj; omega)]; exact h2 j hj
  · intro j hj; rw [r1 10 (by omega)]; exact h3 j hj
  · rw [r2 33 (by omega)]; exact h6
  · intro i hi; rw [r1 10 (by omega)]; exact h8 i hi
theorem YB.r11 {T p j : Nat} {M0 M : hMem} {z v : Int32} {c : List Int32} (h : YB T M0 z p c M) : YB T (h_up M0 11 j v) z p c (h_up M 11 j v) := by
  obtain ⟨h1, h2, h3, h6, h8, h9, h10⟩ := h
  refine ⟨?_, ?_, ?_, ?_, ?_, ?_, ?_⟩
  · intro a a1 a2 a3
    by_cases e : a = 11
    · subst e; rw [m_own, m_own, h1 11 (by omega) (by omega) (by omega)]
    · rw [m_row e, m_row e]; exact h1 a a1 a2 a3
  · intro i hi; rw [m_row (by omega), m_row (by omega)]; exact h2 i hi
  · intro i hi; rw [m_row (by omega), m_row (by omega)]; exact h3 i hi
  · rw [m_row (by omega)]; exact h6
  · intro i hi; rw [m_row (by omega)]; exact h8 i hi
  · rw [m_row (by omega)]; exact h9
  · rw [m_row (by omega)]; exact h10
theorem YB.tx {b : Nat → Int32} {n T p : Nat} {M0 M : hMem} {z : Int32} {c : List Int32} (hTX : TXm b n M0) (h : YB T M0 z p c M) : TXm b n M := ⟨hTX.1, by rw [h.2.1 11 (by unfold kY; omega)]; exact hTX.2.1, fun i hi => by rw [h.1 9 (by omega) (by omega) (by omega)]; exact hTX.2.2.1 i hi, fun i hi => by rw [h.1 17 (by omega) (by omega) (by omega)]; exact hTX.2.2.2 i hi⟩
theorem TXm.r11 {b : Nat → Int32} {n j : Nat} {M0 : hMem} {v : Int32} (h : TXm b n M0) : TXm b n (h_up M0 11 j v) := ⟨h.1, by rw [m_row (by omega)]; exact h.2.1, fun i hi => by rw [m_row (by omega)]; exact h.2.2.1 i hi, fun i hi => by rw [m_row (by omega)]; exact h.2.2.2 i hi⟩
/-- an E -/
theorem m_eRead {b : Nat → Int32} {n T E k p : Nat} {M0 M : hMem} {z : Int32} {c : List Int32} (hT : T < 6) (h14 : M0 0 14 = nI T) (hTX : TXm b n M0) (hb : ∀ i, i < 160 → h_ib (b i) 256) (hE : tkE E (ktF b n)) (hV : VOK (ktF b n) (vtF b n)) (h : YB T M0 z p c M) (hp : p ≤ n) (hs : spn blk b n 160 p = plc b n k) (hl : c.length ≤ k) (hk : k ≤ E) : (∀ w k', prs (ktF b n) (vtF b n) 40 0 0 k = .ok (w, k') → (ktF b n k' = 59 → ∃ M' z' p', fX10_eRead M = some (1, M') ∧ YB T M0 z' p' (c ++ w) M' ∧ p' ≤ n ∧ spn blk b n 160 p' = plc b n (k' + 1) ∧ (c ++ w).length ≤ k' + 1 ∧ k' + 1 ≤ E) ∧ (ktF b n k' ≠ 59 → ∃ M' p' c', fX10_eRead M = some (0, M') ∧ YB T M0 (nI (plc b n k')) p' c' M')) ∧ ∀ kf, prs (ktF b n) (vtF b n) 40 0 0 k = .error kf → ∃ M' p' c', fX10_eRead M = some (0, M') ∧ YB T M0 (nI (plc b n kf)) p' c' M' := by
  have hE160 := hE.1
  obtain ⟨y1, y2⟩ := y_all (V := vtF b n) (c := c) hE hk
  have run := fun g hg => m_run hT h14 hTX hb hE hV g k (some true, [], c) _ 1 1 z p h_FU h.ym hp hs ⟨rfl, rfl⟩ (by show 0 + c.length ≤ k; omega) hk hg
  refine ⟨fun w k' e => ?_, fun kf e => ?_⟩
  · obtain ⟨a1, a2, a3, a4⟩ := y1 w k' e
    refine ⟨fun c59 => ?_, fun c59 => ?_⟩
    · obtain ⟨M', p', o, z', r1, r2, r3, r4, r5, r6⟩ := (run (0 + 1 + (k' - k)) (by unfold h_FU; omega)).2 _ _ (a3 c59 0)
      exact ⟨M', z', p', r1, r2.yb, r3, r4, r5, r6⟩
    · obtain ⟨M', p', o, H', c', r1, r2⟩ := (run (0 + 1 + (k' - k)) (by unfold h_FU; omega)).1 _ (a4 c59 0) (by omega)
      exact ⟨M', p', c', r1, r2.yb⟩
  · obtain ⟨a1, a2, a3⟩ := y2 kf e
    obtain ⟨M', p', o, H', c', r1, r2⟩ := (run (0 + 1 + (kf - k)) (by unfold h_FU; omega)).1 _ (a3 0) (by omega)
    exact ⟨M', p', c', r1, r2.yb⟩
/-- a part -/
theorem m_part {b : Nat → Int32} {n T E k p a : Nat} {M0 M : hMem} {z : Int32} {c : List Int32} (hT : T < 6) (ha : a < 3) (h14 : M0 0 14 = nI T) (hTX : TXm b n M0) (hb : ∀ i, i < 160 → h_ib (b i) 256) (hE : tkE E (ktF b n)) (hV : VOK (ktF b n) (vtF b n)) (h : YB T M0 z p c M) (hp : p ≤ n) (hs : spn blk b n 160 p = plc b n k) (hl : c.length ≤ k) (hk : k ≤ E) : (∀ w k', prt (ktF b n) (vtF b n) (nI (4 + a)) k = .ok (w, k') → ∃ M' z' p', (∀ kont, fX10_text_L26 kont (1, nI a, M) = kont (1, nI (a + 1), M')) ∧ YB T (h_up M0 11 (4 * T + a) (nI c.length)) z' p' (c ++ w) M' ∧ p' ≤ n ∧ spn blk b n 160 p' = plc b n k' ∧ (c ++ w).length ≤ k' ∧ k' ≤ E) ∧ ∀ kf, prt (ktF b n) (vtF b n) (nI (4 + a)) k = .error kf → ∃ M' p' c', (∀ kont, fX10_text_L26 kont (1, nI a, M) = kont (0, nI (a + 1), M')) ∧ YB T (h_up M0 11 (4 * T + a) (nI c.length)) (nI (plc b n kf)) p' c' M' := by
  obtain ⟨r, r1, r2⟩ := m_next (h.tx hTX) hb hp h.2.2.2.2.2.1
  rw [hs] at r2
  have hr := h.tok r2
  obtain ⟨-, -, -, -, q27, -, q28⟩ := r2
  have hin : ktF b n k ∈ tkl := tK_in b n _
  have hpl := plc_le b n k
  obtain ⟨t1, t2, t3⟩ := tEnd_le (b := b) hpl
  have e14 : r 0 14 = nI T := by rw [hr.2.1 14 (by unfold kY; omega)]; exact h14
  have e33 : r 0 33 = nI c.length := hr.2.2.2.1
  have h3 : ¬ (3 : Int32) ≤ nI a := nI_ge (b := 3) ha (by decide)
  have h1 : ¬ (1 : Int32) = 0 := by decide
  have hix : (4 : Int32) * nI T + nI a = nI (4 * T + a) := by rw [show (4 : Int32) * nI T = nI (4 * T) from pk_mul 4 T, nI_add]
  have h60 : ∀ kont t0, fX10_text_L60 kont (nI a) t0 r = if t0 = 0 then (kont (0, nI (a + 1), h_up r 11 (4 * T + a) (nI c.length))) else ((fX10_eRead (h_up r 11 (4 * T + a) (nI c.length))).bind fun q83 => if q83.1 = 0 then (kont (0, nI (a + 1), q83.2)) else (kont (1, nI (a + 1), q83.2))) := fun kont t0 => by
    unfold fX10_text_L60
    rw [e14, e33, hix, if_pos (ib_mk (by omega) (by omega)), nI_clamp (by omega), nI_1]
  have hr11 := hr.r11 (j := 4 * T + a) (v := nI c.length)
  unfold fX10_text_L26
  simp only [if_neg h3, if_neg h1, r1, Option.bind_some]
  unfold fX10_text_L59
  simp only [h60, if_neg h1, q27, ite_true]
  unfold prt
  by_cases ck : ktF b n k = nI (4 + a)
  · have hm3 : mK (ktF b n k) = 3 := by
      rw [mK_3 _ hin, ck]
      rcases (by omega : a = 0 ∨ a = 1 ∨ a = 2) with rfl | rfl | rfl <;> decide
    have h28 : r 0 28 = nI a := q28 a ha ck
    have hlt := hE.lt hk (fun q => absurd (ck.symm.trans q) (show ¬ nI (4 + a) = 0 from nI_neq 0 (by omega) (by omega) (by omega))) (fun q => absurd (ck.symm.trans q) (show ¬ nI (4 + a) = 1 from nI_neq 1 (by omega) (by omega) (by omega)))
    simp only [show mK (tK b n (plc b n k)) = 3 from hm3, h28, if_pos rfl]
    rw [if_pos ck]
    obtain ⟨e1, e2⟩ := m_eRead hT (by rw [m_row (by omega)]; exact h14) hTX.r11 hb hE hV hr11 t2 (show spn blk b n 160 (tEnd b n (plc b n k)) = plc b n (k + 1) from rfl) (by omega) hlt
    cases hres : prs (ktF b n) (vtF b n) 40 0 0 (k + 1) with
    | error kf =>
      obtain ⟨M', p', c', d1, d2⟩ := e2 kf hres
      simp only [d1, Option.bind_some, if_pos rfl]
      exact ⟨fun w k' e => (by cases e), fun kf' e => (by cases e; exact ⟨M', p', c', fun kont => rfl, d2⟩)⟩
    | ok s =>
      obtain ⟨f1, f2⟩ := e1 s.1 s.2 hres
      dsimp only
      by_cases c59 : ktF b n s.2 = 59
      · obtain ⟨M', z', p', d1, d2, d3, d4, d5, d6⟩ := f1 c59
        rw [if_pos c59]
        simp only [d1, Option.bind_some, if_neg h1]
        exact ⟨fun w k' e => (by cases e; exact ⟨M', z', p', fun kont => rfl, d2, d3, d4, d5, d6⟩), fun kf e => (by cases e)⟩
      · obtain ⟨M', p', c', d1, d2⟩ := f2 c59
        rw [if_neg c59]
        simp only [d1, Option.bind_some, if_pos rfl]
        exact ⟨fun w k' e => (by cases e), fun kf' e => (by cases e; exact ⟨M', p', c', fun kont => rfl, d2⟩)⟩
  · rw [if_neg ck]
    refine ⟨fun w k' e => (by cases e), fun kf e => ?_⟩
    cases e
    refine ⟨_, _, _, fun kont => ?_, hr11⟩
    by_cases hm3 : mK (tK b n (plc b n k)) = 3
    · rw [if_pos hm3, if_neg]
      intro q
      have : ∃ g, g < 3 ∧ ktF b n k = nI (4 + g) := by
        rcases (mK_3 _ hin).mp hm3 with e | e | e
        · exact ⟨0, by omega, e⟩
        · exact ⟨1, by omega, e⟩
        · exact ⟨2, by omega, e⟩
      obtain ⟨g, hg, eg⟩ := this
      rw [q28 g hg eg] at q
      have : g = a := (nI_eq (by omega) (by omega)).mp q
      subst this
      exact ck eg
    · rw [if_neg hm3]
def MEnd (T : Nat) (M0 M' : hMem) : Prop := (∀ a, a ≠ 0 → a ≠ 10 → a ≠ 11 → a ≠ 18 → M' a = M0 a) ∧ (∀ j, kY j → j ≠ 11 → j ≠ 14 → M' 0 j = M0 0 j) ∧ (∀ j, j < 200 * T → M' 10 j = M0 10 j) ∧ (∀ j, j < 4 * T → M' 11 j = M0 11 j) ∧ M' 0 11 = 0
theorem m_122 {T p : Nat} {M0 M : hMem} {z : Int32} {c : List Int32} (hT : T < 6) (h14 : M0 0 14 = nI T) (h : YB T M0 z p c M) : (∃ M', fX10_text_L122 0 M = some (-100 - z, M') ∧ MEnd T M0 M' ∧ M' 0 14 = nI T) ∧ ∃ M', fX10_text_L122 1 M = some (nI T, M') ∧ MEnd T M0 M' ∧ M' 0 14 = nI (T + 1) ∧ (∀ i, i < c.length → M' 10 (200 * T + i) = trW (c.getD i 0)) ∧ (∀ j, j < 3 → M' 11 (4 * T + j) = M0 11 (4 * T + j)) ∧ M' 11 (4 * T + 3) = nI c.length := by
  obtain ⟨h1, h2, h3, h6, h8, h9, h10⟩ := h
  have e14 : M 0 14 = nI T := by rw [h2 14 (by unfold kY; omega)]; exact h14
  have hix : (4 : Int32) * nI T + 3 = nI (4 * T + 3) := by rw [show (4 : Int32) * nI T = nI (4 * T) from pk_mul 4 T]; exact nI_add _ 3
  have hme : MEnd T M0 (h_up (h_up M 11 (4 * T + 3) (nI c.length)) 0 11 0) := by
    refine ⟨?_, ?_, ?_, ?_, ?_⟩
    · intro a a1 a2 a3 a4; simp (disch := omega) only [m_row]; exact h1 a a1 a2 a4
    · intro j hj j1 j2; simp (disch := omega) only [m_own, m_row, u_n]; exact h2 j hj
    · intro j hj; simp (disch := omega) only [m_row]; exact h3 j hj
    · intro j hj; simp (disch := omega) only [m_row, m_own, u_n]; rw [h1 11 (by omega) (by omega) (by omega)]
    · rw [m_own, u_s]
  unfold fX10_text_L122
  rw [e14, hix, if_pos (ib_mk (by omega) (by omega)), if_pos (ib_mk (by omega) (by omega)), nI_clamp (by omega), h6, if_pos rfl, if_neg (show ¬ (1 : Int32) = 0 by decide)]
  have z26 : (h_up (h_up M 11 (4 * T + 3) (nI c.length)) 0 11 0) 0 26 = z := by simp (disch := omega) only [m_own, m_row, u_n]; exact h10
  have z14 : (h_up (h_up M 11 (4 * T + 3) (nI c.length)) 0 11 0) 0 14 = nI T := by simp (disch := omega) only [m_own, m_row, u_n]; exact e14
  have z10 : ∀ j, (h_up (h_up M 11 (4 * T + 3) (nI c.length)) 0 11 0) 10 j = M 10 j := fun j => by simp (disch := omega) only [m_row]
  have z11 : ∀ j, (h_up (h_up M 11 (4 * T + 3) (nI c.length)) 0 11 0) 11 j = if j = 4 * T + 3 then nI c.length else M0 11 j := fun j => by
    simp (disch := omega) only [m_row, m_own]
    rw [u_e, h1 11 (by omega) (by omega) (by omega)]
  generalize (h_up (h_up M 11 (4 * T + 3) (nI c.length)) 0 11 0) = M2 at hme z26 z14 z10 z11 ⊢
  rw [z26, z14, nI_1]
  refine ⟨⟨M2, rfl, hme, z14⟩, h_up M2 0 14 (nI (T + 1)), ?_, ⟨?_, ?_, ?_, ?_, ?_⟩, ?_, ?_, ?_, ?_⟩
  · rw [m_own, u_s, nI_sub1 (by omega)]; rfl
  · intro a a1 a2 a3 a4; rw [m_row a1]; exact hme.1 a a1 a2 a3 a4
  · intro j hj j1 j2; rw [m_own, u_n j2]; exact hme.2.1 j hj j1 j2
  · intro j hj; rw [m_row (by omega)]; exact hme.2.2.1 j hj
  · intro j hj; rw [m_row (by omega)]; exact hme.2.2.2.1 j hj
  · rw [m_own, u_n (by omega)]; exact hme.2.2.2.2
  · rw [m_own, u_s]
  · intro i hi; rw [m_row (by omega), z10]; exact h8 i hi
  · intro j hj; rw [m_row (by omega), z11, if_neg (by omega)]
  · rw [m_row (by omega), z11, if_pos rfl]
theorem m_bad {T p j : Nat} {M0 M : hMem} {z : Int32} {c : List Int32} (hT : T < 6) (h14 : M0 0 14 = nI T) (h : YB T M0 z p c M) : ∃ M', (∀ kont, fX10_text_L26 kont (0, nI j, M) = some (-100 - z, M')) ∧ MEnd T M0 M' ∧ M' 0 14 = nI T := by
  obtain ⟨M', a1, a2⟩ := (m_122 hT h14 h).1
  refine ⟨M', fun kont => ?_, a2⟩
  unfold fX10_text_L26 fX10_text_L101
  simp only [if_pos rfl, a1]
  split <;> rfl
/-- the whole text -/
def txt (K V : Nat → Int32) : Except Nat (List Int32 × List Int32 × List Int32) := match prt K V 4 0 with
  | .error e => .error e
  | .ok s1 => (match prt K V 5 s1.2 with
    | .error e => .error e
    | .ok s2 => (match prt K V 6 s2.2 with
      | .error e => .error e
      | .ok s3 => if K s3.2 = 0 then .ok (s1.1, s2.1, s3.1) else .error s3.2))
theorem MEnd.r11 {T j : Nat} {M0 M' : hMem} {v : Int32} (h : MEnd T (h_up M0 11 (4 * T + j) v) M') : MEnd T M0 M' := by
  obtain ⟨h1, h2, h3, h4, h5⟩ := h
  exact ⟨fun a a1 a2 a3 a4 => by rw [h1 a a1 a2 a3 a4, m_row a3], fun i hi i1 i2 => by rw [h2 i hi i1 i2, m_row (by omega)], fun i hi => by rw [h3 i hi, m_row (by omega)], fun i hi => by rw [h4 i hi, m_own, u_n (by omega)], h5⟩
theorem m_text {b : Nat → Int32} {n T E : Nat} {M : hMem} (hT : T < 6) (h14 : M 0 14 = nI T) (hTX : TXm b n M) (hb : ∀ i, i < 160 → h_ib (b i) 256) (hE : tkE E (ktF b n)) (hV : VOK (ktF b n) (vtF b n)) : (∀ kf, txt (ktF b n) (vtF b n) = .error kf → ∃ M', fX10_text M = some (-100 - nI (plc b n kf), M') ∧ MEnd T M M' ∧ M' 0 14 = nI T) ∧ ∀ w1 w2 w3, txt (ktF b n) (vtF b n) = .ok (w1, w2, w3) → ∃ M', fX10_text M = some (nI T, M') ∧ MEnd T M M' ∧ M' 0 14 = nI (T + 1) ∧ (∀ i, i < (w1 ++ w2 ++ w3).length → M' 10 (200 * T + i) = trW ((w1 ++ w2 ++ w3).getD i 0)) ∧ M' 11 (4 * T) = 0 ∧ M' 11 (4 * T + 1) = nI w1.length ∧ M' 11 (4 * T + 2) = nI (w1 ++ w2).length ∧ M' 11 (4 * T + 3) = nI (w1 ++ w2 ++ w3).length := by
  unfold fX10_text
  rw [h14, if_neg (show ¬ nI T = 6 from nI_neq 6 (by omega) (by omega) (by omega))]
  have hB : YB T M (M 0 26) 0 [] (h_up (h_up M 0 25 0) 0 33 0) := by
    refine ⟨?_, ?_, ?_, ?_, ?_, ?_, ?_⟩
    · intro a a1 a2 a3; simp (disch := omega) only [m_row]
    · intro j hj
      have : j ≠ 25 ∧ j ≠ 33 := by unfold kY at hj; omega
      simp (disch := omega) only [m_own, u_n]
    · intro j hj; simp (disch := omega) only [m_row]
    · rw [m_own, u_s]; rfl
    · intro i hi; exact absurd hi (Nat.not_lt_zero _)
    · simp (disch := omega) only [m_own, u_n, u_s]; rfl
    · simp (disch := omega) only [m_own, u_n]
  generalize h_up (h_up M 0 25 0) 0 33 0 = M1 at hB ⊢
  unfold txt
  rw [show h_FU = 19996 + 1 + 1 + 1 + 1 from rfl, lp_s]
  obtain ⟨g1, b1⟩ := m_part (a := 0) (k := 0) hT (by omega) h14 hTX hb hE hV hB (Nat.zero_le _) rfl (Nat.zero_le _) (Nat.zero_le _)
  cases p1 : prt (ktF b n) (vtF b n) 4 0 with
  | error kf =>
    obtain ⟨M', p', c', d1, d2⟩ := b1 kf p1
    obtain ⟨M2, f1, f2, f3⟩ := m_bad (j := 0 + 1) hT (by rw [m_row (by omega)]; exact h14) d2
    rw [show fX10_text_L26 (h_lp fX10_text_L26 (19996 + 1 + 1 + 1)) (1, 0, M1) = h_lp fX10_text_L26 (19996 + 1 + 1 + 1) (0, nI (0 + 1), M') from d1 _, lp_s, f1]
    exact ⟨fun kf' e => (by cases e; exact ⟨M2, rfl, f2.r11, f3⟩), fun w1 w2 w3 e => (by cases e)⟩
  | ok s1 =>
    obtain ⟨M2, z2, q2, d1, hB2, d3, d4, d5, d6⟩ := g1 s1.1 s1.2 p1
    rw [show fX10_text_L26 (h_lp fX10_text_L26 (19996 + 1 + 1 + 1)) (1, 0, M1) = h_lp fX10_text_L26 (19996 + 1 + 1 + 1) (1, nI (0 + 1), M2) from d1 _, lp_s]
    have e14 : (h_up M 11 (4 * T + 0) (nI ([] : List Int32).length)) 0 14 = nI T := by rw [m_row (by omega)]; exact h14
    obtain ⟨g2, b2⟩ := m_part (a := 1) (k := s1.2) hT (by omega) e14 hTX.r11 hb hE hV hB2 d3 d4 d5 d6
    dsimp only
    cases p2 : prt (ktF b n) (vtF b n) 5 s1.2 with
    | error kf =>
      obtain ⟨M', p', c', d1', d2'⟩ := b2 kf p2
      obtain ⟨M3, f1, f2, f3⟩ := m_bad (j := 1 + 1) hT (by rw [m_row (by omega)]; exact e14) d2'
      rw [show fX10_text_L26 (h_lp fX10_text_L26 (19996 + 1 + 1)) (1, nI (0 + 1), M2) = h_lp fX10_text_L26 (19996 + 1 + 1) (0, nI (1 + 1), M') from d1' _, lp_s, f1]
      exact ⟨fun kf' e => (by cases e; exact ⟨M3, rfl, f2.r11.r11, f3⟩), fun w1 w2 w3 e => (by cases e)⟩
    | ok s2 =>
      obtain ⟨M3, z3, q3, h1', hB3, h3', h4', h5', h6'⟩ := g2 s2.1 s2.2 p2
      rw [show fX10_text_L26 (h_lp fX10_text_L26 (19996 + 1 + 1)) (1, nI (0 + 1), M2) = h_lp fX10_text_L26 (19996 + 1 + 1) (1, nI (1 + 1), M3) from h1' _, lp_s]
      have e14b : (h_up (h_up M 11 (4 * T + 0) (nI ([] : List Int32).length)) 11 (4 * T + 1) (nI ([] ++ s1.1).length)) 0 14 = nI T := by rw [m_row (by omega)]; exact e14
      obtain ⟨g3, b3⟩ := m_part (a := 2) (k := s2.2) hT (by omega) e14b hTX.r11.r11 hb hE hV hB3 h3' h4' h5' h6'
      dsimp only
      cases p3 : prt (ktF b n) (vtF b n) 6 s2.2 with
      | error kf =>
        obtain ⟨M', p', c', d1', d2'⟩ := b3 kf p3
        obtain ⟨M4, f1, f2, f3⟩ := m_bad (j := 2 + 1) hT (by rw [m_row (by omega)]; exact e14b) d2'
        rw [show fX10_text_L26 (h_lp fX10_text_L26 (19996 + 1)) (1, nI (1 + 1), M3) = h_lp fX10_text_L26 (19996 + 1) (0, nI (2 + 1), M') from d1' _, lp_s, f1]
        exact ⟨fun kf' e => (by cases e; exact ⟨M4, rfl, f2.r11.r11.r11, f3⟩), fun w1 w2 w3 e => (by cases e)⟩
      | ok s3 =>
        obtain ⟨M4, z4, q4, k1', hB4, k3', k4', k5', k6'⟩ := g3 s3.1 s3.2 p3
        rw [show fX10_text_L26 (h_lp fX10_text_L26 (19996 + 1)) (1, nI (1 + 1), M3) = h_lp fX10_text_L26 (19996 + 1) (1, nI (2 + 1), M4) from k1' _, lp_s]
        have e14c : (h_up (h_up (h_up M 11 (4 * T + 0) (nI ([] : List Int32).length)) 11 (4 * T + 1) (nI ([] ++ s1.1).length)) 11 (4 * T + 2) (nI ([] ++ s1.1 ++ s2.1).length)) 0 14 = nI T := by rw [m_row (by omega)]; exact e14b
        obtain ⟨r, r1, r2⟩ := m_next (hB4.tx hTX.r11.r11.r11) hb k3' hB4.2.2.2.2.2.1
        rw [k4'] at r2
        have hr := hB4.tok r2
        obtain ⟨-, -, -, -, q27, -, -⟩ := r2
        have hin : ktF b n s3.2 ∈ tkl := tK_in b n _
        obtain ⟨x1, x2⟩ := m_122 hT e14c hr
        unfold fX10_text_L26 fX10_text_L101 fX10_text_L121
        dsimp only
        rw [if_pos (show (3 : Int32) ≤ nI (2 + 1) from by decide), if_neg (show ¬ (1 : Int32) = 0 by decide), r1, Option.bind_some, q27]
        by_cases c0 : ktF b n s3.2 = 0
        · rw [if_pos ((mK_0 _ hin).mpr c0), if_pos c0]
          obtain ⟨M', a1, a2, a3, a4, a5, a6⟩ := x2
          refine ⟨fun kf e => (by cases e), fun w1 w2 w3 e => ?_⟩
          cases e
          refine ⟨M', a1, a2.r11.r11.r11, a3, a4, ?_, ?_, ?_, a6⟩
          · rw [show 4 * T = 4 * T + 0 from rfl, a5 0 (by omega)]; simp (disch := omega) only [m_own, u_n, u_s]; rfl
          · rw [a5 1 (by omega)]; simp (disch := omega) only [m_own, u_n, u_s]; rfl
          · rw [a5 2 (by omega)]; simp (disch := omega) only [m_own, u_n, u_s]; rfl
        · rw [if_neg (fun q => c0 ((mK_0 _ hin).mp q)), if_neg c0]
          obtain ⟨M', a1, a2, a3⟩ := x1
          exact ⟨fun kf e => (by cases e; exact ⟨M', a1, a2.r11.r11.r11, a3⟩), fun w1 w2 w3 e => (by cases e)⟩
end
section
/-! TEXT: x reads a text -/
abbrev pF (b : Nat → Int32) (n : Nat) : Nat → Nat := plc b n
def XE (T : Nat) (X X' : hMem) : Prop := (∀ a, a ≠ 30 → a ≠ 32 → a ≠ 33 → a ≠ 34 → a ≠ 56 + 4 * T → a ≠ 57 + 4 * T → a ≠ 58 + 4 * T → X' a = X a) ∧ X' 30 0 = 0
theorem XE.of {T : Nat} {X Y Y' Y0 : hMem} (hY : ∀ a, a ≠ 30 → a ≠ 32 → a ≠ 33 → a ≠ 34 → a ≠ 56 + 4 * T → Y a = X a) (h0 : Y 30 0 = 0) (h1 : ∀ a, a ≠ 30 → a ≠ 56 + 4 * T → a ≠ 57 + 4 * T → Y' a = Y0 a) (h2 : Y' 30 0 = Y0 30 0) (h3 : ∀ a, a ≠ 58 + 4 * T → Y0 a = Y a) : XE T X Y' := ⟨fun a a1 a2 a3 a4 a5 a6 a7 => by rw [h1 a a1 a5 a6, h3 a a7, hY a a1 a2 a3 a4 a5], by rw [h2, h3 30 (by omega), h0]⟩
theorem x_into {b : Nat → Int32} {n T E : Nat} {X : hMem} (hT : T < 6) (hTX : TXx b n X) (hb : ∀ i, i < 160 → h_ib (b i) 256) (hE : tkE E (ktF b n)) (hmin : ∀ j, j < E → ktF b n j ≠ 0 ∧ ktF b n j ≠ 1) : (∀ kf, txt (ktF b n) (vtF b n) = .error kf → ∃ X', fX5_readInto (56 + 4 * T) X = some (nI (plc b n kf), X') ∧ XE T X X') ∧ ∀ w1 w2 w3, txt (ktF b n) (vtF b n) = .ok (w1, w2, w3) → ∃ X', fX5_readInto (56 + 4 * T) X = some (-1, X') ∧ XE T X X' ∧ (∀ i, i < (w1 ++ w2 ++ w3).length → X' (57 + 4 * T) i = (w1 ++ w2 ++ w3).getD i 0) ∧ X' (58 + 4 * T) 0 = nI w1.length ∧ X' (58 + 4 * T) 1 = nI (w1 ++ w2).length ∧ X' (58 + 4 * T) 2 = nI (w1 ++ w2 ++ w3).length ∧ (w1 ++ w2 ++ w3).length ≤ 160 := by
  have hE160 := hE.1
  have hn := hTX.1
  have hP : ∀ k, plc b n k < 2 ^ 31 := fun k => by have := plc_le b n k; omega
  obtain ⟨q1, p1, p2, p3⟩ := x_parts hTX hb
  unfold fX5_readInto fX4_clear
  rw [if_pos (tx_isB hT), p1, Option.bind_some]
  have e8 : (h_up (h_up (h_up q1 30 0 0) 30 7 (-1)) 30 8 (nI (56 + 4 * T))) 30 8 = nI (56 + 4 * T) := by rw [m_own, u_s]
  rw [e8, nI_clamp (by omega), if_pos (tx_isB hT), if_pos (tx_isB hT), Option.bind_some]
  obtain ⟨Y, hYd⟩ : ∃ Y : hMem, Y = h_up (h_up (h_up (h_up (h_up (h_up q1 30 0 0) 30 7 (-1)) 30 8 (nI (56 + 4 * T))) (56 + 4 * T) 3 0) 30 5 0) 30 6 ((h_up (h_up (h_up (h_up (h_up q1 30 0 0) 30 7 (-1)) 30 8 (nI (56 + 4 * T))) (56 + 4 * T) 3 0) 30 5 0) 32 0) := ⟨_, rfl⟩
  rw [← hYd]
  have row : ∀ a, a ≠ 30 → a ≠ 56 + 4 * T → Y a = q1 a := fun a a1 a2 => by rw [hYd]; simp only [m_row a1, m_row a2]
  have hrows : ∀ k, k ≤ E → q1 32 k = ktF b n k ∧ q1 33 k = nI (plc b n k) ∧ q1 34 k = vtF b n k := fun k hk => p3 k (by omega) (fun j hj => hmin j (by omega))
  have hYX : ∀ a, a ≠ 30 → a ≠ 32 → a ≠ 33 → a ≠ 34 → a ≠ 56 + 4 * T → Y a = X a := fun a a1 a2 a3 a4 a5 => by rw [row a a1 a5, p2 a a2 a3 a4]
  have hY0 : Y 30 0 = 0 := by rw [hYd]; simp (disch := omega) only [m_own, m_row, u_n, u_s]
  have hS : XS T E (ktF b n) (vtF b n) (plc b n) Y 0 [] Y := by
    refine ⟨⟨fun k hk => ?_, fun k hk => ?_, fun k hk => ?_, ?_, fun _ _ _ _ => rfl, rfl⟩, ?_, ?_, ?_, Nat.zero_le _, ?_, fun i hi => absurd hi (Nat.not_lt_zero _)⟩
    · rw [row 32 (by omega) (by omega)]; exact (hrows k hk).1
    · rw [row 33 (by omega) (by omega)]; exact (hrows k hk).2.1
    · rw [row 34 (by omega) (by omega)]; exact (hrows k hk).2.2
    · rw [hYd]; simp (disch := omega) only [m_own, m_row, u_n, u_s]
    · rw [hYd]; simp (disch := omega) only [m_own, m_row, u_n, u_s]; rfl
    · rw [hYd]; simp (disch := omega) only [m_own, m_row, u_s]; exact (hrows 0 (Nat.zero_le _)).1
    · rw [hYd]; simp (disch := omega) only [m_own, m_row, u_n, u_s]
    · rw [hYd]; simp (disch := omega) only [m_own, m_row, u_s]; rfl
  clear hYd
  have r58 : ∀ (Z : hMem) j v a, a ≠ 58 + 4 * T → h_up Z (58 + 4 * T) j v a = Z a := fun Z j v a h => m_row h
  have fin : ∀ {kf : Nat} {Y0 Z : hMem}, XF T E (ktF b n) (vtF b n) (plc b n) Y0 kf Z → (∀ a, a ≠ 58 + 4 * T → Y0 a = Y a) → ∃ X', (fX5_expect 0 Z).bind (fun q62 => some (q62 30 7, q62)) = some (nI (plc b n kf), X') ∧ XE T X X' := fun {kf} {Y0} {Z} h h0 => by
    obtain ⟨Z2, a1, a2⟩ := h.exp hT (hP kf) (a := 0) (by decide)
    rw [a1, Option.bind_some, a2.2.2.1]
    exact ⟨Z2, rfl, XE.of hYX hY0 a2.1.2.2.2.2.1 a2.1.2.2.2.2.2 h0⟩
  unfold txt
  obtain ⟨Y1, a1, a2, a3⟩ := x_part (a := 0) (key := 4) hT hE hP (by omega) (by decide) (by decide) hS (Nat.zero_le _)
  rw [show fX5_readPart 4 0 Y = some Y1 from a1, Option.bind_some]
  cases c1 : prt (ktF b n) (vtF b n) 4 0 with
  | error kf =>
    obtain ⟨⟨v, d1⟩, d2⟩ := a3 kf c1
    obtain ⟨Y2, v2, e1, e2⟩ := f_part (a := 1) (key := 5) hT hP (by omega) (by decide) d1
    obtain ⟨Y3, v3, f1, f2⟩ := f_part (a := 2) (key := 6) hT hP (by omega) (by decide) e2
    obtain ⟨X', g1, g2⟩ := fin f2 (fun a h => by rw [r58 _ _ _ a h, r58 _ _ _ a h, r58 _ _ _ a h])
    rw [show fX5_readPart 5 1 Y1 = some Y2 from e1, Option.bind_some, show fX5_readPart 6 2 Y2 = some Y3 from f1, Option.bind_some]
    exact ⟨fun kf' e => (by cases e; exact ⟨X', g1, g2⟩), fun w1 w2 w3 e => (by cases e)⟩
  | ok s1 =>
    obtain ⟨d1, d2⟩ := a2 s1 c1
    obtain ⟨Y2, e1, e2, e3⟩ := x_part (a := 1) (key := 5) hT hE hP (by omega) (by decide) (by decide) d1 d2
    rw [show fX5_readPart 5 1 Y1 = some Y2 from e1, Option.bind_some]
    dsimp only
    cases c2 : prt (ktF b n) (vtF b n) 5 s1.2 with
    | error kf =>
      obtain ⟨⟨v, f1⟩, f2⟩ := e3 kf c2
      obtain ⟨Y3, v3, g1, g2⟩ := f_part (a := 2) (key := 6) hT hP (by omega) (by decide) f1
      obtain ⟨X', i1, i2⟩ := fin g2 (fun a h => by rw [r58 _ _ _ a h, r58 _ _ _ a h, r58 _ _ _ a h])
      rw [show fX5_readPart 6 2 Y2 = some Y3 from g1, Option.bind_some]
      exact ⟨fun kf' e => (by cases e; exact ⟨X', i1, i2⟩), fun w1 w2 w3 e => (by cases e)⟩
    | ok s2 =>
      obtain ⟨f1, f2⟩ := e2 s2 c2
      obtain ⟨Y3, g1, g2, g3⟩ := x_part (a := 2) (key := 6) hT hE hP (by omega) (by decide) (by decide) f1 f2
      rw [show fX5_readPart 6 2 Y2 = some Y3 from g1, Option.bind_some]
      dsimp only
      cases c3 : prt (ktF b n) (vtF b n) 6 s2.2 with
      | error kf =>
        obtain ⟨⟨v, i1⟩, i2⟩ := g3 kf c3
        obtain ⟨X', j1, j2⟩ := fin i1 (fun a h => by rw [r58 _ _ _ a h, r58 _ _ _ a h, r58 _ _ _ a h])
        exact ⟨fun kf' e => (by cases e; exact ⟨X', j1, j2⟩), fun w1 w2 w3 e => (by cases e)⟩
      | ok s3 =>
        obtain ⟨i1, i2⟩ := g2 s3 c3
        have hk3 := i1.2.2.2.2.1
        obtain ⟨Z, j1, j2, j3, j4⟩ := x_last hT hE i1 (by omega)
        have hfr := i1.1.2.2.2.2.1
        have hcode := i1.2.2.2.2.2.2
        have hxe : XE T X Z := by
          have hx := XE.of (T := T) hYX hY0 hfr i1.1.2.2.2.2.2 (fun a h => by rw [r58 _ _ _ a h, r58 _ _ _ a h, r58 _ _ _ a h])
          exact ⟨fun a a1 a2 a3 a4 a5 a6 a7 => by rw [j2 a a1]; exact hx.1 a a1 a2 a3 a4 a5 a6 a7, by rw [j3]; exact hx.2⟩
        rw [j1, Option.bind_some]
        dsimp only
        rcases j4 with ⟨k0, k7⟩ | ⟨k0, k7⟩
        · rw [if_pos k0, k7]
          refine ⟨fun kf e => (by cases e), fun w1 w2 w3 e => ?_⟩
          cases e
          have h58 : Z (58 + 4 * T) = (h_up (h_up (h_up Y (58 + 4 * T) 0 (nI ([] ++ s1.1).length)) (58 + 4 * T) 1 (nI ([] ++ s1.1 ++ s2.1).length)) (58 + 4 * T) 2 (nI ([] ++ s1.1 ++ s2.1 ++ s3.1).length)) (58 + 4 * T) := by
            rw [j2 _ (by omega)]; exact hfr _ (by omega) (by omega) (by omega)
          refine ⟨Z, rfl, hxe, fun i hi => ?_, ?_, ?_, ?_, ?_⟩
          · rw [j2 _ (by omega)]; exact hcode i hi
          · rw [h58]; simp (disch := omega) only [m_own, u_n, u_s]; rfl
          · rw [h58]; simp (disch := omega) only [m_own, u_n, u_s]; rfl
          · rw [h58]; simp (disch := omega) only [m_own, u_n, u_s]; rfl
          · have i2' : (s1.1 ++ s2.1 ++ s3.1).length ≤ s3.2 := i2
            omega
        · rw [if_neg k0, k7]
          exact ⟨fun kf e => (by cases e; exact ⟨Z, rfl, hxe⟩), fun w1 w2 w3 e => (by cases e)⟩
def XEnd (T : Nat) (X X' : hMem) : Prop := (∀ a, a ≠ 0 → a ≠ 30 → a ≠ 32 → a ≠ 33 → a ≠ 34 → a ≠ 56 + 4 * T → a ≠ 57 + 4 * T → a ≠ 58 + 4 * T → X' a = X a) ∧ (∀ j, j ≠ 4 → X' 0 j = X 0 j) ∧ X' 30 0 = 0
theorem x_text {b : Nat → Int32} {n T E : Nat} {X : hMem} (hT : T < 6) (h4 : X 0 4 = nI T) (hTX : TXx b n X) (hb : ∀ i, i < 160 → h_ib (b i) 256) (hE : tkE E (ktF b n)) (hmin : ∀ j, j < E → ktF b n j ≠ 0 ∧ ktF b n j ≠ 1) : (∀ kf, txt (ktF b n) (vtF b n) = .error kf → ∃ X', fX9_text X = some (-100 - nI (plc b n kf), X') ∧ XEnd T X X' ∧ X' 0 4 = nI T) ∧ ∀ w1 w2 w3, txt (ktF b n) (vtF b n) = .ok (w1, w2, w3) → ∃ X', fX9_text X = some (nI T, X') ∧ XEnd T X X' ∧ X' 0 4 = nI (T + 1) ∧ (∀ i, i < (w1 ++ w2 ++ w3).length → X' (57 + 4 * T) i = (w1 ++ w2 ++ w3).getD i 0) ∧ X' (58 + 4 * T) 0 = nI w1.length ∧ X' (58 + 4 * T) 1 = nI (w1 ++ w2).length ∧ X' (58 + 4 * T) 2 = nI (w1 ++ w2 ++ w3).length ∧ (w1 ++ w2 ++ w3).length ≤ 160 := by
  obtain ⟨i1, i2⟩ := x_into hT hTX hb hE hmin
  have hn := hTX.1
  unfold fX9_text
  rw [h4, if_pos (show nI T < 6 from nI_lt (b := 6) hT (by decide)), if_pos (ib_mk hT (by decide)), nI_clamp (by omega)]
  have xe : ∀ {X' : hMem}, XE T X X' → XEnd T X X' := fun h => ⟨fun a a0 a1 a2 a3 a4 a5 a6 a7 => h.1 a a1 a2 a3 a4 a5 a6 a7, fun j hj => by rw [h.1 0 (by omega) (by omega) (by omega) (by omega) (by omega) (by omega) (by omega)], h.2⟩
  refine ⟨fun kf e => ?_, fun w1 w2 w3 e => ?_⟩
  · obtain ⟨X', a1, a2⟩ := i1 kf e
    have hp := plc_le b n kf
    rw [a1, Option.bind_some, if_neg (nI_pos (by omega))]
    exact ⟨X', rfl, xe a2, by rw [a2.1 0 (by omega) (by omega) (by omega) (by omega) (by omega) (by omega) (by omega)]; exact h4⟩
  · obtain ⟨X', a1, a2, a3, a4, a5, a6, a7⟩ := i2 w1 w2 w3 e
    have e4 : X' 0 4 = nI T := by rw [a2.1 0 (by omega) (by omega) (by omega) (by omega) (by omega) (by omega) (by omega)]; exact h4
    rw [a1, Option.bind_some, if_pos (show (-1 : Int32) < 0 by decide)]
    dsimp only
    rw [e4, nI_1]
    refine ⟨h_up X' 0 4 (nI (T + 1)), ?_, ⟨fun a a0 a1 a2 a3 a4 a5 a6 a7 => ?_, fun j hj => ?_, ?_⟩, ?_, fun i hi => ?_, ?_, ?_, ?_, a7⟩
    · rw [m_own, u_s, nI_sub1 (by omega)]; rfl
    · rw [m_row a0]; exact (xe ‹XE T X X'›).1 a a0 a1 a2 a3 a4 a5 a6 a7
    · rw [m_own, u_n hj]; exact (xe ‹XE T X X'›).2.1 j hj
    · rw [m_row (by omega)]; exact (xe ‹XE T X X'›).2.2
    · rw [m_own, u_s]
    · rw [m_row (by omega)]; exact a3 i hi
    · rw [m_row (by omega)]; exact a4
    · rw [m_row (by omega)]; exact a5
    · rw [m_row (by omega)]; exact a6
end
