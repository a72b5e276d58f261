section
-- ===== PART A: goes FIRST, ahead of the names: the tables' words, and 'selects' of the private methods out of them =====
/-- a private method of a class that the tables say can be made, by its rows of tables_1 -/
def lw_okq (q : MethodName × Nat) : Prop := (q.1.cls ≠ "java/lang/invoke/MethodHandle" ∧ q.1.cls ≠ "java/lang/invoke/VarHandle") ∧ Cond.instantiable q.1.cls q.2 ∈ tables_1 ∧ Cond.privateMethod q.1 ∈ tables_1 ∧ Cond.instanceMethod q.1 ∈ tables_1
theorem lw_p0 : lw_okq (⟨"ChainBooks$Ledger", "append", "(J)I"⟩, 18) := ⟨⟨by decide +kernel, by decide +kernel⟩, List.mem_of_getElem? (i := 22) (by decide +kernel), List.mem_of_getElem? (i := 342) (by decide +kernel), List.mem_of_getElem? (i := 343) (by decide +kernel)⟩
theorem lw_p1 : lw_okq (⟨"ChainBooks", "written", "(I)I"⟩, 8) := ⟨⟨by decide +kernel, by decide +kernel⟩, List.mem_of_getElem? (i := 14) (by decide +kernel), List.mem_of_getElem? (i := 349) (by decide +kernel), List.mem_of_getElem? (i := 350) (by decide +kernel)⟩
theorem lw_p2 : lw_okq (⟨"ChainBooks$Ledger", "answeredBefore", "(J)I"⟩, 18) := ⟨⟨by decide +kernel, by decide +kernel⟩, List.mem_of_getElem? (i := 22) (by decide +kernel), List.mem_of_getElem? (i := 391) (by decide +kernel), List.mem_of_getElem? (i := 392) (by decide +kernel)⟩
theorem lw_p3 : lw_okq (⟨"ChainBooks$Ledger", "isAsDrafted", "(I)Z"⟩, 18) := ⟨⟨by decide +kernel, by decide +kernel⟩, List.mem_of_getElem? (i := 22) (by decide +kernel), List.mem_of_getElem? (i := 395) (by decide +kernel), List.mem_of_getElem? (i := 396) (by decide +kernel)⟩
theorem lw_p4 : lw_okq (⟨"ChainBooks$Ledger", "areThere", "(LChainBooks$Legs;)Z"⟩, 18) := ⟨⟨by decide +kernel, by decide +kernel⟩, List.mem_of_getElem? (i := 22) (by decide +kernel), List.mem_of_getElem? (i := 399) (by decide +kernel), List.mem_of_getElem? (i := 400) (by decide +kernel)⟩
theorem lw_p5 : lw_okq (⟨"ChainBooks$Ledger", "weigh", "(LChainBooks$Legs;IJ)I"⟩, 18) := ⟨⟨by decide +kernel, by decide +kernel⟩, List.mem_of_getElem? (i := 22) (by decide +kernel), List.mem_of_getElem? (i := 408) (by decide +kernel), List.mem_of_getElem? (i := 409) (by decide +kernel)⟩
theorem lw_p6 : lw_okq (⟨"ChainBooks$Ledger", "move", "(JLChainBooks$Legs;)I"⟩, 18) := ⟨⟨by decide +kernel, by decide +kernel⟩, List.mem_of_getElem? (i := 22) (by decide +kernel), List.mem_of_getElem? (i := 416) (by decide +kernel), List.mem_of_getElem? (i := 417) (by decide +kernel)⟩
theorem lw_p7 : lw_okq (⟨"ChainBooks$Ledger", "addTrial", "()V"⟩, 18) := ⟨⟨by decide +kernel, by decide +kernel⟩, List.mem_of_getElem? (i := 22) (by decide +kernel), List.mem_of_getElem? (i := 420) (by decide +kernel), List.mem_of_getElem? (i := 421) (by decide +kernel)⟩
theorem lw_p8 : lw_okq (⟨"ChainBooks$Ledger", "isHoldThere", "(I)Z"⟩, 18) := ⟨⟨by decide +kernel, by decide +kernel⟩, List.mem_of_getElem? (i := 22) (by decide +kernel), List.mem_of_getElem? (i := 444) (by decide +kernel), List.mem_of_getElem? (i := 445) (by decide +kernel)⟩
theorem lw_p9 : lw_okq (⟨"ChainBooks$Ledger", "endHold", "(II)V"⟩, 18) := ⟨⟨by decide +kernel, by decide +kernel⟩, List.mem_of_getElem? (i := 22) (by decide +kernel), List.mem_of_getElem? (i := 452) (by decide +kernel), List.mem_of_getElem? (i := 453) (by decide +kernel)⟩
theorem lw_p10 : lw_okq (⟨"ChainBooks$Ledger", "accountHeld", "(I)I"⟩, 18) := ⟨⟨by decide +kernel, by decide +kernel⟩, List.mem_of_getElem? (i := 22) (by decide +kernel), List.mem_of_getElem? (i := 456) (by decide +kernel), List.mem_of_getElem? (i := 457) (by decide +kernel)⟩
theorem lw_p11 : lw_okq (⟨"ChainBooks$Ledger", "amountHeld", "(I)J"⟩, 18) := ⟨⟨by decide +kernel, by decide +kernel⟩, List.mem_of_getElem? (i := 22) (by decide +kernel), List.mem_of_getElem? (i := 460) (by decide +kernel), List.mem_of_getElem? (i := 461) (by decide +kernel)⟩
theorem lw_p12 : lw_okq (⟨"ChainBooks", "legOf", "(II)J"⟩, 8) := ⟨⟨by decide +kernel, by decide +kernel⟩, List.mem_of_getElem? (i := 14) (by decide +kernel), List.mem_of_getElem? (i := 498) (by decide +kernel), List.mem_of_getElem? (i := 499) (by decide +kernel)⟩
theorem lw_p13 : lw_okq (⟨"ChainBooks$Sha", "readSchedule", "(I)V"⟩, 4) := ⟨⟨by decide +kernel, by decide +kernel⟩, List.mem_of_getElem? (i := 151) (by decide +kernel), List.mem_of_getElem? (i := 558) (by decide +kernel), List.mem_of_getElem? (i := 559) (by decide +kernel)⟩
theorem lw_p14 : lw_okq (⟨"ChainBooks$Sha", "mix", "()V"⟩, 4) := ⟨⟨by decide +kernel, by decide +kernel⟩, List.mem_of_getElem? (i := 151) (by decide +kernel), List.mem_of_getElem? (i := 562) (by decide +kernel), List.mem_of_getElem? (i := 563) (by decide +kernel)⟩
theorem lw_p15 : lw_okq (⟨"ChainBooks$Pages", "nodeOf", "(II)[I"⟩, 8) := ⟨⟨by decide +kernel, by decide +kernel⟩, List.mem_of_getElem? (i := 145) (by decide +kernel), List.mem_of_getElem? (i := 576) (by decide +kernel), List.mem_of_getElem? (i := 577) (by decide +kernel)⟩
def lw_privs_1 : List (MethodName × Nat) := [(⟨"ChainBooks$Ledger", "append", "(J)I"⟩, 18), (⟨"ChainBooks", "written", "(I)I"⟩, 8), (⟨"ChainBooks$Ledger", "answeredBefore", "(J)I"⟩, 18), (⟨"ChainBooks$Ledger", "isAsDrafted", "(I)Z"⟩, 18), (⟨"ChainBooks$Ledger", "areThere", "(LChainBooks$Legs;)Z"⟩, 18), (⟨"ChainBooks$Ledger", "weigh", "(LChainBooks$Legs;IJ)I"⟩, 18), (⟨"ChainBooks$Ledger", "move", "(JLChainBooks$Legs;)I"⟩, 18), (⟨"ChainBooks$Ledger", "addTrial", "()V"⟩, 18), (⟨"ChainBooks$Ledger", "isHoldThere", "(I)Z"⟩, 18), (⟨"ChainBooks$Ledger", "endHold", "(II)V"⟩, 18), (⟨"ChainBooks$Ledger", "accountHeld", "(I)I"⟩, 18), (⟨"ChainBooks$Ledger", "amountHeld", "(I)J"⟩, 18), (⟨"ChainBooks", "legOf", "(II)J"⟩, 8), (⟨"ChainBooks$Sha", "readSchedule", "(I)V"⟩, 4), (⟨"ChainBooks$Sha", "mix", "()V"⟩, 4), (⟨"ChainBooks$Pages", "nodeOf", "(II)[I"⟩, 8)]
theorem lw_r1 : ∀ q ∈ lw_privs_1, lw_okq q := List.forall_mem_cons.mpr ⟨lw_p0, List.forall_mem_cons.mpr ⟨lw_p1, List.forall_mem_cons.mpr ⟨lw_p2, List.forall_mem_cons.mpr ⟨lw_p3, List.forall_mem_cons.mpr ⟨lw_p4, List.forall_mem_cons.mpr ⟨lw_p5, List.forall_mem_cons.mpr ⟨lw_p6, List.forall_mem_cons.mpr ⟨lw_p7, List.forall_mem_cons.mpr ⟨lw_p8, List.forall_mem_cons.mpr ⟨lw_p9, List.forall_mem_cons.mpr ⟨lw_p10, List.forall_mem_cons.mpr ⟨lw_p11, List.forall_mem_cons.mpr ⟨lw_p12, List.forall_mem_cons.mpr ⟨lw_p13, List.forall_mem_cons.mpr ⟨lw_p14, List.forall_mem_cons.mpr ⟨lw_p15, fun _ h => absurd h List.not_mem_nil⟩⟩⟩⟩⟩⟩⟩⟩⟩⟩⟩⟩⟩⟩⟩⟩
theorem lw_p16 : lw_okq (⟨"ChainBooks$Pages", "learn", "(I)V"⟩, 8) := ⟨⟨by decide +kernel, by decide +kernel⟩, List.mem_of_getElem? (i := 145) (by decide +kernel), List.mem_of_getElem? (i := 580) (by decide +kernel), List.mem_of_getElem? (i := 581) (by decide +kernel)⟩
theorem lw_p17 : lw_okq (⟨"ChainBooks$Trail", "goDown", "(I)V"⟩, 15) := ⟨⟨by decide +kernel, by decide +kernel⟩, List.mem_of_getElem? (i := 222) (by decide +kernel), List.mem_of_getElem? (i := 617) (by decide +kernel), List.mem_of_getElem? (i := 618) (by decide +kernel)⟩
theorem lw_p18 : lw_okq (⟨"ChainBooks$Trail", "isEnd", "(I)Z"⟩, 15) := ⟨⟨by decide +kernel, by decide +kernel⟩, List.mem_of_getElem? (i := 222) (by decide +kernel), List.mem_of_getElem? (i := 621) (by decide +kernel), List.mem_of_getElem? (i := 622) (by decide +kernel)⟩
theorem lw_p19 : lw_okq (⟨"ChainBooks$Trail", "hasOwnBeginning", "()Z"⟩, 15) := ⟨⟨by decide +kernel, by decide +kernel⟩, List.mem_of_getElem? (i := 222) (by decide +kernel), List.mem_of_getElem? (i := 628) (by decide +kernel), List.mem_of_getElem? (i := 629) (by decide +kernel)⟩
theorem lw_p20 : lw_okq (⟨"ChainBooks", "isHeadOf", "(II)Z"⟩, 8) := ⟨⟨by decide +kernel, by decide +kernel⟩, List.mem_of_getElem? (i := 14) (by decide +kernel), List.mem_of_getElem? (i := 645) (by decide +kernel), List.mem_of_getElem? (i := 646) (by decide +kernel)⟩
theorem lw_p21 : lw_okq (⟨"ChainBooks$Trail", "goUp", "([I)V"⟩, 15) := ⟨⟨by decide +kernel, by decide +kernel⟩, List.mem_of_getElem? (i := 222) (by decide +kernel), List.mem_of_getElem? (i := 653) (by decide +kernel), List.mem_of_getElem? (i := 654) (by decide +kernel)⟩
theorem lw_p22 : lw_okq (⟨"ChainBooks$Auditor", "callAgain", "(LChainBooks$Pages;I)V"⟩, 2) := ⟨⟨by decide +kernel, by decide +kernel⟩, List.mem_of_getElem? (i := 283) (by decide +kernel), List.mem_of_getElem? (i := 682) (by decide +kernel), List.mem_of_getElem? (i := 683) (by decide +kernel)⟩
theorem lw_p23 : lw_okq (⟨"ChainBooks$Auditor", "readLegs", "(LChainBooks$Pages;I)Z"⟩, 2) := ⟨⟨by decide +kernel, by decide +kernel⟩, List.mem_of_getElem? (i := 283) (by decide +kernel), List.mem_of_getElem? (i := 691) (by decide +kernel), List.mem_of_getElem? (i := 692) (by decide +kernel)⟩
theorem lw_p24 : lw_okq (⟨"ChainBooks$Auditor", "stands", "(LChainBooks$Pages;I)Z"⟩, 2) := ⟨⟨by decide +kernel, by decide +kernel⟩, List.mem_of_getElem? (i := 283) (by decide +kernel), List.mem_of_getElem? (i := 701) (by decide +kernel), List.mem_of_getElem? (i := 702) (by decide +kernel)⟩
theorem lw_p25 : lw_okq (⟨"ChainBooks", "alteredBytes", "()I"⟩, 8) := ⟨⟨by decide +kernel, by decide +kernel⟩, List.mem_of_getElem? (i := 14) (by decide +kernel), List.mem_of_getElem? (i := 710) (by decide +kernel), List.mem_of_getElem? (i := 711) (by decide +kernel)⟩
theorem lw_p26 : lw_okq (⟨"ChainBooksModel", "begins", "(IJ)V"⟩, 67) := ⟨⟨by decide +kernel, by decide +kernel⟩, List.mem_of_getElem? (i := 714) (by decide +kernel), List.mem_of_getElem? (i := 990) (by decide +kernel), List.mem_of_getElem? (i := 991) (by decide +kernel)⟩
theorem lw_p27 : lw_okq (⟨"ChainBooksModel", "put", "(I)V"⟩, 67) := ⟨⟨by decide +kernel, by decide +kernel⟩, List.mem_of_getElem? (i := 714) (by decide +kernel), List.mem_of_getElem? (i := 994) (by decide +kernel), List.mem_of_getElem? (i := 995) (by decide +kernel)⟩
theorem lw_p28 : lw_okq (⟨"ChainBooksModel", "putLong", "(J)V"⟩, 67) := ⟨⟨by decide +kernel, by decide +kernel⟩, List.mem_of_getElem? (i := 714) (by decide +kernel), List.mem_of_getElem? (i := 998) (by decide +kernel), List.mem_of_getElem? (i := 999) (by decide +kernel)⟩
theorem lw_p29 : lw_okq (⟨"ChainBooksModel", "writes", "()V"⟩, 67) := ⟨⟨by decide +kernel, by decide +kernel⟩, List.mem_of_getElem? (i := 714) (by decide +kernel), List.mem_of_getElem? (i := 1003) (by decide +kernel), List.mem_of_getElem? (i := 1004) (by decide +kernel)⟩
theorem lw_p30 : lw_okq (⟨"ChainBooksModel", "does", "(I)I"⟩, 67) := ⟨⟨by decide +kernel, by decide +kernel⟩, List.mem_of_getElem? (i := 714) (by decide +kernel), List.mem_of_getElem? (i := 1007) (by decide +kernel), List.mem_of_getElem? (i := 1008) (by decide +kernel)⟩
theorem lw_p31 : lw_okq (⟨"ChainBooksModel", "hold", "(IIJI)V"⟩, 67) := ⟨⟨by decide +kernel, by decide +kernel⟩, List.mem_of_getElem? (i := 714) (by decide +kernel), List.mem_of_getElem? (i := 1011) (by decide +kernel), List.mem_of_getElem? (i := 1012) (by decide +kernel)⟩
def lw_privs_2 : List (MethodName × Nat) := [(⟨"ChainBooks$Pages", "learn", "(I)V"⟩, 8), (⟨"ChainBooks$Trail", "goDown", "(I)V"⟩, 15), (⟨"ChainBooks$Trail", "isEnd", "(I)Z"⟩, 15), (⟨"ChainBooks$Trail", "hasOwnBeginning", "()Z"⟩, 15), (⟨"ChainBooks", "isHeadOf", "(II)Z"⟩, 8), (⟨"ChainBooks$Trail", "goUp", "([I)V"⟩, 15), (⟨"ChainBooks$Auditor", "callAgain", "(LChainBooks$Pages;I)V"⟩, 2), (⟨"ChainBooks$Auditor", "readLegs", "(LChainBooks$Pages;I)Z"⟩, 2), (⟨"ChainBooks$Auditor", "stands", "(LChainBooks$Pages;I)Z"⟩, 2), (⟨"ChainBooks", "alteredBytes", "()I"⟩, 8), (⟨"ChainBooksModel", "begins", "(IJ)V"⟩, 67), (⟨"ChainBooksModel", "put", "(I)V"⟩, 67), (⟨"ChainBooksModel", "putLong", "(J)V"⟩, 67), (⟨"ChainBooksModel", "writes", "()V"⟩, 67), (⟨"ChainBooksModel", "does", "(I)I"⟩, 67), (⟨"ChainBooksModel", "hold", "(IIJI)V"⟩, 67)]
theorem lw_r2 : ∀ q ∈ lw_privs_2, lw_okq q := List.forall_mem_cons.mpr ⟨lw_p16, List.forall_mem_cons.mpr ⟨lw_p17, List.forall_mem_cons.mpr ⟨lw_p18, List.forall_mem_cons.mpr ⟨lw_p19, List.forall_mem_cons.mpr ⟨lw_p20, List.forall_mem_cons.mpr ⟨lw_p21, List.forall_mem_cons.mpr ⟨lw_p22, List.forall_mem_cons.mpr ⟨lw_p23, List.forall_mem_cons.mpr ⟨lw_p24, List.forall_mem_cons.mpr ⟨lw_p25, List.forall_mem_cons.mpr ⟨lw_p26, List.forall_mem_cons.mpr ⟨lw_p27, List.forall_mem_cons.mpr ⟨lw_p28, List.forall_mem_cons.mpr ⟨lw_p29, List.forall_mem_cons.mpr ⟨lw_p30, List.forall_mem_cons.mpr ⟨lw_p31, fun _ h => absurd h List.not_mem_nil⟩⟩⟩⟩⟩⟩⟩⟩⟩⟩⟩⟩⟩⟩⟩⟩
theorem lw_p32 : lw_okq (⟨"ChainBooksModel", "leg", "(IJI)V"⟩, 67) := ⟨⟨by decide +kernel, by decide +kernel⟩, List.mem_of_getElem? (i := 714) (by decide +kernel), List.mem_of_getElem? (i := 1032) (by decide +kernel), List.mem_of_getElem? (i := 1033) (by decide +kernel)⟩
theorem lw_p33 : lw_okq (⟨"ChainBooksModel", "calls", "()I"⟩, 67) := ⟨⟨by decide +kernel, by decide +kernel⟩, List.mem_of_getElem? (i := 714) (by decide +kernel), List.mem_of_getElem? (i := 1036) (by decide +kernel), List.mem_of_getElem? (i := 1037) (by decide +kernel)⟩
theorem lw_p34 : lw_okq (⟨"ChainBooksModel", "byKey", "(IJ)I"⟩, 67) := ⟨⟨by decide +kernel, by decide +kernel⟩, List.mem_of_getElem? (i := 714) (by decide +kernel), List.mem_of_getElem? (i := 1040) (by decide +kernel), List.mem_of_getElem? (i := 1041) (by decide +kernel)⟩
theorem lw_p35 : lw_okq (⟨"ChainBooksModel", "isSame", "(I)Z"⟩, 67) := ⟨⟨by decide +kernel, by decide +kernel⟩, List.mem_of_getElem? (i := 714) (by decide +kernel), List.mem_of_getElem? (i := 1044) (by decide +kernel), List.mem_of_getElem? (i := 1045) (by decide +kernel)⟩
theorem lw_p36 : lw_okq (⟨"ChainBooksModel", "refused", "(I)I"⟩, 67) := ⟨⟨by decide +kernel, by decide +kernel⟩, List.mem_of_getElem? (i := 714) (by decide +kernel), List.mem_of_getElem? (i := 1048) (by decide +kernel), List.mem_of_getElem? (i := 1049) (by decide +kernel)⟩
theorem lw_p37 : lw_okq (⟨"ChainBooksModel", "isUnknown", "(I)Z"⟩, 67) := ⟨⟨by decide +kernel, by decide +kernel⟩, List.mem_of_getElem? (i := 714) (by decide +kernel), List.mem_of_getElem? (i := 1052) (by decide +kernel), List.mem_of_getElem? (i := 1053) (by decide +kernel)⟩
theorem lw_p38 : lw_okq (⟨"ChainBooksModel", "isAccount", "(II)Z"⟩, 67) := ⟨⟨by decide +kernel, by decide +kernel⟩, List.mem_of_getElem? (i := 714) (by decide +kernel), List.mem_of_getElem? (i := 1056) (by decide +kernel), List.mem_of_getElem? (i := 1057) (by decide +kernel)⟩
theorem lw_p39 : lw_okq (⟨"ChainBooksModel", "isHold", "(II)Z"⟩, 67) := ⟨⟨by decide +kernel, by decide +kernel⟩, List.mem_of_getElem? (i := 714) (by decide +kernel), List.mem_of_getElem? (i := 1060) (by decide +kernel), List.mem_of_getElem? (i := 1061) (by decide +kernel)⟩
theorem lw_p40 : lw_okq (⟨"ChainBooksModel", "isUneven", "()Z"⟩, 67) := ⟨⟨by decide +kernel, by decide +kernel⟩, List.mem_of_getElem? (i := 714) (by decide +kernel), List.mem_of_getElem? (i := 1064) (by decide +kernel), List.mem_of_getElem? (i := 1065) (by decide +kernel)⟩
theorem lw_p41 : lw_okq (⟨"ChainBooksModel", "isOver", "(I)Z"⟩, 67) := ⟨⟨by decide +kernel, by decide +kernel⟩, List.mem_of_getElem? (i := 714) (by decide +kernel), List.mem_of_getElem? (i := 1068) (by decide +kernel), List.mem_of_getElem? (i := 1069) (by decide +kernel)⟩
theorem lw_p42 : lw_okq (⟨"ChainBooksModel", "isBelow", "(II)Z"⟩, 67) := ⟨⟨by decide +kernel, by decide +kernel⟩, List.mem_of_getElem? (i := 714) (by decide +kernel), List.mem_of_getElem? (i := 1072) (by decide +kernel), List.mem_of_getElem? (i := 1073) (by decide +kernel)⟩
theorem lw_p43 : lw_okq (⟨"ChainBooksModel", "trial", "(I)V"⟩, 67) := ⟨⟨by decide +kernel, by decide +kernel⟩, List.mem_of_getElem? (i := 714) (by decide +kernel), List.mem_of_getElem? (i := 1076) (by decide +kernel), List.mem_of_getElem? (i := 1077) (by decide +kernel)⟩
theorem lw_p44 : lw_okq (⟨"ChainBooksModel", "putShort", "(I)V"⟩, 67) := ⟨⟨by decide +kernel, by decide +kernel⟩, List.mem_of_getElem? (i := 714) (by decide +kernel), List.mem_of_getElem? (i := 1088) (by decide +kernel), List.mem_of_getElem? (i := 1089) (by decide +kernel)⟩
theorem lw_p45 : lw_okq (⟨"ChainBooksModel", "chain", "(I)V"⟩, 67) := ⟨⟨by decide +kernel, by decide +kernel⟩, List.mem_of_getElem? (i := 714) (by decide +kernel), List.mem_of_getElem? (i := 1124) (by decide +kernel), List.mem_of_getElem? (i := 1125) (by decide +kernel)⟩
theorem lw_p46 : lw_okq (⟨"ChainBooksModel", "says", "(I)V"⟩, 67) := ⟨⟨by decide +kernel, by decide +kernel⟩, List.mem_of_getElem? (i := 714) (by decide +kernel), List.mem_of_getElem? (i := 1128) (by decide +kernel), List.mem_of_getElem? (i := 1129) (by decide +kernel)⟩
theorem lw_p47 : lw_okq (⟨"ChainBooksModel", "saysEntry", "(I)V"⟩, 67) := ⟨⟨by decide +kernel, by decide +kernel⟩, List.mem_of_getElem? (i := 714) (by decide +kernel), List.mem_of_getElem? (i := 1132) (by decide +kernel), List.mem_of_getElem? (i := 1133) (by decide +kernel)⟩
def lw_privs_3 : List (MethodName × Nat) := [(⟨"ChainBooksModel", "leg", "(IJI)V"⟩, 67), (⟨"ChainBooksModel", "calls", "()I"⟩, 67), (⟨"ChainBooksModel", "byKey", "(IJ)I"⟩, 67), (⟨"ChainBooksModel", "isSame", "(I)Z"⟩, 67), (⟨"ChainBooksModel", "refused", "(I)I"⟩, 67), (⟨"ChainBooksModel", "isUnknown", "(I)Z"⟩, 67), (⟨"ChainBooksModel", "isAccount", "(II)Z"⟩, 67), (⟨"ChainBooksModel", "isHold", "(II)Z"⟩, 67), (⟨"ChainBooksModel", "isUneven", "()Z"⟩, 67), (⟨"ChainBooksModel", "isOver", "(I)Z"⟩, 67), (⟨"ChainBooksModel", "isBelow", "(II)Z"⟩, 67), (⟨"ChainBooksModel", "trial", "(I)V"⟩, 67), (⟨"ChainBooksModel", "putShort", "(I)V"⟩, 67), (⟨"ChainBooksModel", "chain", "(I)V"⟩, 67), (⟨"ChainBooksModel", "says", "(I)V"⟩, 67), (⟨"ChainBooksModel", "saysEntry", "(I)V"⟩, 67)]
theorem lw_r3 : ∀ q ∈ lw_privs_3, lw_okq q := List.forall_mem_cons.mpr ⟨lw_p32, List.forall_mem_cons.mpr ⟨lw_p33, List.forall_mem_cons.mpr ⟨lw_p34, List.forall_mem_cons.mpr ⟨lw_p35, List.forall_mem_cons.mpr ⟨lw_p36, List.forall_mem_cons.mpr ⟨lw_p37, List.forall_mem_cons.mpr ⟨lw_p38, List.forall_mem_cons.mpr ⟨lw_p39, List.forall_mem_cons.mpr ⟨lw_p40, List.forall_mem_cons.mpr ⟨lw_p41, List.forall_mem_cons.mpr ⟨lw_p42, List.forall_mem_cons.mpr ⟨lw_p43, List.forall_mem_cons.mpr ⟨lw_p44, List.forall_mem_cons.mpr ⟨lw_p45, List.forall_mem_cons.mpr ⟨lw_p46, List.forall_mem_cons.mpr ⟨lw_p47, fun _ h => absurd h List.not_mem_nil⟩⟩⟩⟩⟩⟩⟩⟩⟩⟩⟩⟩⟩⟩⟩⟩
theorem lw_p48 : lw_okq (⟨"ChainBooksModel", "sum", "()V"⟩, 67) := ⟨⟨by decide +kernel, by decide +kernel⟩, List.mem_of_getElem? (i := 714) (by decide +kernel), List.mem_of_getElem? (i := 1136) (by decide +kernel), List.mem_of_getElem? (i := 1137) (by decide +kernel)⟩
theorem lw_p49 : lw_okq (⟨"ChainBooksModel", "block", "(I)V"⟩, 67) := ⟨⟨by decide +kernel, by decide +kernel⟩, List.mem_of_getElem? (i := 714) (by decide +kernel), List.mem_of_getElem? (i := 1148) (by decide +kernel), List.mem_of_getElem? (i := 1149) (by decide +kernel)⟩
theorem lw_p50 : lw_okq (⟨"ChainBooksModel", "tree", "(II)V"⟩, 67) := ⟨⟨by decide +kernel, by decide +kernel⟩, List.mem_of_getElem? (i := 714) (by decide +kernel), List.mem_of_getElem? (i := 1155) (by decide +kernel), List.mem_of_getElem? (i := 1156) (by decide +kernel)⟩
theorem lw_p51 : lw_okq (⟨"ChainBooksModel", "leaf", "(I)V"⟩, 67) := ⟨⟨by decide +kernel, by decide +kernel⟩, List.mem_of_getElem? (i := 714) (by decide +kernel), List.mem_of_getElem? (i := 1159) (by decide +kernel), List.mem_of_getElem? (i := 1160) (by decide +kernel)⟩
theorem lw_p52 : lw_okq (⟨"ChainBooksModel", "joins", "(I)V"⟩, 67) := ⟨⟨by decide +kernel, by decide +kernel⟩, List.mem_of_getElem? (i := 714) (by decide +kernel), List.mem_of_getElem? (i := 1163) (by decide +kernel), List.mem_of_getElem? (i := 1164) (by decide +kernel)⟩
theorem lw_p53 : lw_okq (⟨"ChainBooksModel", "keepWait", "(I)V"⟩, 67) := ⟨⟨by decide +kernel, by decide +kernel⟩, List.mem_of_getElem? (i := 714) (by decide +kernel), List.mem_of_getElem? (i := 1167) (by decide +kernel), List.mem_of_getElem? (i := 1168) (by decide +kernel)⟩
theorem lw_p54 : lw_okq (⟨"ChainBooksModel", "isAs", "([II)Z"⟩, 67) := ⟨⟨by decide +kernel, by decide +kernel⟩, List.mem_of_getElem? (i := 714) (by decide +kernel), List.mem_of_getElem? (i := 1179) (by decide +kernel), List.mem_of_getElem? (i := 1180) (by decide +kernel)⟩
theorem lw_p55 : lw_okq (⟨"ChainBooksModel", "down", "(IIZ)V"⟩, 67) := ⟨⟨by decide +kernel, by decide +kernel⟩, List.mem_of_getElem? (i := 714) (by decide +kernel), List.mem_of_getElem? (i := 1187) (by decide +kernel), List.mem_of_getElem? (i := 1188) (by decide +kernel)⟩
theorem lw_p56 : lw_okq (⟨"ChainBooksModel", "sides", "()V"⟩, 67) := ⟨⟨by decide +kernel, by decide +kernel⟩, List.mem_of_getElem? (i := 714) (by decide +kernel), List.mem_of_getElem? (i := 1194) (by decide +kernel), List.mem_of_getElem? (i := 1195) (by decide +kernel)⟩
theorem lw_p57 : lw_okq (⟨"ChainBooksModel", "step", "()V"⟩, 67) := ⟨⟨by decide +kernel, by decide +kernel⟩, List.mem_of_getElem? (i := 714) (by decide +kernel), List.mem_of_getElem? (i := 1198) (by decide +kernel), List.mem_of_getElem? (i := 1199) (by decide +kernel)⟩
theorem lw_p58 : lw_okq (⟨"ChainBooksModel", "isHeadOf", "(II)Z"⟩, 67) := ⟨⟨by decide +kernel, by decide +kernel⟩, List.mem_of_getElem? (i := 714) (by decide +kernel), List.mem_of_getElem? (i := 1214) (by decide +kernel), List.mem_of_getElem? (i := 1215) (by decide +kernel)⟩
theorem lw_p59 : lw_okq (⟨"ChainBooksModel", "beside", "([IIZ)V"⟩, 67) := ⟨⟨by decide +kernel, by decide +kernel⟩, List.mem_of_getElem? (i := 714) (by decide +kernel), List.mem_of_getElem? (i := 1218) (by decide +kernel), List.mem_of_getElem? (i := 1219) (by decide +kernel)⟩
theorem lw_p60 : lw_okq (⟨"ChainBooksModel", "isHead", "([II)Z"⟩, 67) := ⟨⟨by decide +kernel, by decide +kernel⟩, List.mem_of_getElem? (i := 714) (by decide +kernel), List.mem_of_getElem? (i := 1222) (by decide +kernel), List.mem_of_getElem? (i := 1223) (by decide +kernel)⟩
theorem lw_p61 : lw_okq (⟨"ChainBooksModel", "tells", "(I)I"⟩, 67) := ⟨⟨by decide +kernel, by decide +kernel⟩, List.mem_of_getElem? (i := 714) (by decide +kernel), List.mem_of_getElem? (i := 1230) (by decide +kernel), List.mem_of_getElem? (i := 1231) (by decide +kernel)⟩
theorem lw_p62 : lw_okq (⟨"ChainBooksModel", "sizeOf", "(I)I"⟩, 67) := ⟨⟨by decide +kernel, by decide +kernel⟩, List.mem_of_getElem? (i := 714) (by decide +kernel), List.mem_of_getElem? (i := 1234) (by decide +kernel), List.mem_of_getElem? (i := 1235) (by decide +kernel)⟩
theorem lw_p63 : lw_okq (⟨"ChainBooksModel", "isTrial", "()Z"⟩, 67) := ⟨⟨by decide +kernel, by decide +kernel⟩, List.mem_of_getElem? (i := 714) (by decide +kernel), List.mem_of_getElem? (i := 1238) (by decide +kernel), List.mem_of_getElem? (i := 1239) (by decide +kernel)⟩
def lw_privs_4 : List (MethodName × Nat) := [(⟨"ChainBooksModel", "sum", "()V"⟩, 67), (⟨"ChainBooksModel", "block", "(I)V"⟩, 67), (⟨"ChainBooksModel", "tree", "(II)V"⟩, 67), (⟨"ChainBooksModel", "leaf", "(I)V"⟩, 67), (⟨"ChainBooksModel", "joins", "(I)V"⟩, 67), (⟨"ChainBooksModel", "keepWait", "(I)V"⟩, 67), (⟨"ChainBooksModel", "isAs", "([II)Z"⟩, 67), (⟨"ChainBooksModel", "down", "(IIZ)V"⟩, 67), (⟨"ChainBooksModel", "sides", "()V"⟩, 67), (⟨"ChainBooksModel", "step", "()V"⟩, 67), (⟨"ChainBooksModel", "isHeadOf", "(II)Z"⟩, 67), (⟨"ChainBooksModel", "beside", "([IIZ)V"⟩, 67), (⟨"ChainBooksModel", "isHead", "([II)Z"⟩, 67), (⟨"ChainBooksModel", "tells", "(I)I"⟩, 67), (⟨"ChainBooksModel", "sizeOf", "(I)I"⟩, 67), (⟨"ChainBooksModel", "isTrial", "()Z"⟩, 67)]
theorem lw_r4 : ∀ q ∈ lw_privs_4, lw_okq q := List.forall_mem_cons.mpr ⟨lw_p48, List.forall_mem_cons.mpr ⟨lw_p49, List.forall_mem_cons.mpr ⟨lw_p50, List.forall_mem_cons.mpr ⟨lw_p51, List.forall_mem_cons.mpr ⟨lw_p52, List.forall_mem_cons.mpr ⟨lw_p53, List.forall_mem_cons.mpr ⟨lw_p54, List.forall_mem_cons.mpr ⟨lw_p55, List.forall_mem_cons.mpr ⟨lw_p56, List.forall_mem_cons.mpr ⟨lw_p57, List.forall_mem_cons.mpr ⟨lw_p58, List.forall_mem_cons.mpr ⟨lw_p59, List.forall_mem_cons.mpr ⟨lw_p60, List.forall_mem_cons.mpr ⟨lw_p61, List.forall_mem_cons.mpr ⟨lw_p62, List.forall_mem_cons.mpr ⟨lw_p63, fun _ h => absurd h List.not_mem_nil⟩⟩⟩⟩⟩⟩⟩⟩⟩⟩⟩⟩⟩⟩⟩⟩
theorem lw_p64 : lw_okq (⟨"ChainBooksModel", "reads", "()Z"⟩, 67) := ⟨⟨by decide +kernel, by decide +kernel⟩, List.mem_of_getElem? (i := 714) (by decide +kernel), List.mem_of_getElem? (i := 1242) (by decide +kernel), List.mem_of_getElem? (i := 1243) (by decide +kernel)⟩
theorem lw_p65 : lw_okq (⟨"ChainBooksModel", "number", "(I)J"⟩, 67) := ⟨⟨by decide +kernel, by decide +kernel⟩, List.mem_of_getElem? (i := 714) (by decide +kernel), List.mem_of_getElem? (i := 1246) (by decide +kernel), List.mem_of_getElem? (i := 1247) (by decide +kernel)⟩
theorem lw_p66 : lw_okq (⟨"ChainBooksModel", "readsLegs", "()Z"⟩, 67) := ⟨⟨by decide +kernel, by decide +kernel⟩, List.mem_of_getElem? (i := 714) (by decide +kernel), List.mem_of_getElem? (i := 1250) (by decide +kernel), List.mem_of_getElem? (i := 1251) (by decide +kernel)⟩
theorem lw_p67 : lw_okq (⟨"ChainBooksModel", "there", "()I"⟩, 67) := ⟨⟨by decide +kernel, by decide +kernel⟩, List.mem_of_getElem? (i := 714) (by decide +kernel), List.mem_of_getElem? (i := 1258) (by decide +kernel), List.mem_of_getElem? (i := 1259) (by decide +kernel)⟩
theorem lw_p68 : lw_okq (⟨"ChainBooksModel", "altered", "()I"⟩, 67) := ⟨⟨by decide +kernel, by decide +kernel⟩, List.mem_of_getElem? (i := 714) (by decide +kernel), List.mem_of_getElem? (i := 1262) (by decide +kernel), List.mem_of_getElem? (i := 1263) (by decide +kernel)⟩
def lw_privs_5 : List (MethodName × Nat) := [(⟨"ChainBooksModel", "reads", "()Z"⟩, 67), (⟨"ChainBooksModel", "number", "(I)J"⟩, 67), (⟨"ChainBooksModel", "readsLegs", "()Z"⟩, 67), (⟨"ChainBooksModel", "there", "()I"⟩, 67), (⟨"ChainBooksModel", "altered", "()I"⟩, 67)]
theorem lw_r5 : ∀ q ∈ lw_privs_5, lw_okq q := List.forall_mem_cons.mpr ⟨lw_p64, List.forall_mem_cons.mpr ⟨lw_p65, List.forall_mem_cons.mpr ⟨lw_p66, List.forall_mem_cons.mpr ⟨lw_p67, List.forall_mem_cons.mpr ⟨lw_p68, fun _ h => absurd h List.not_mem_nil⟩⟩⟩⟩⟩
def lw_privs : List (MethodName × Nat) := lw_privs_1 ++ (lw_privs_2 ++ (lw_privs_3 ++ (lw_privs_4 ++ (lw_privs_5))))
def lw_tbl : List Cond := k2_sels lw_privs ++ tables_1
theorem lw_privs_ok : ∀ q ∈ lw_privs, lw_okq q := by
  show ∀ q ∈ lw_privs_1 ++ (lw_privs_2 ++ (lw_privs_3 ++ (lw_privs_4 ++ (lw_privs_5)))), lw_okq q
  exact List.forall_mem_append.mpr ⟨lw_r1, List.forall_mem_append.mpr ⟨lw_r2, List.forall_mem_append.mpr ⟨lw_r3, List.forall_mem_append.mpr ⟨lw_r4, lw_r5⟩⟩⟩⟩
end
section
/-- the words that a method keeps through its calls -/
def lwT : List Cond := lw_tbl.filter goodWord
theorem tn1 {w : Cond} (h : w ∈ tables_1_1) : w ∈ lw_tbl := List.mem_append_right _ (show w ∈ tables_1 from List.mem_append_left _ h)
theorem tb1 {w : Cond} (h : w ∈ tables_1_1) (g : goodWord w = true) : w ∈ lwT := List.mem_filter.mpr ⟨tn1 h, g⟩
theorem tn2 {w : Cond} (h : w ∈ tables_1_2) : w ∈ lw_tbl := List.mem_append_right _ (show w ∈ tables_1 from List.mem_append_right _ (List.mem_append_left _ h))
theorem tb2 {w : Cond} (h : w ∈ tables_1_2) (g : goodWord w = true) : w ∈ lwT := List.mem_filter.mpr ⟨tn2 h, g⟩
theorem tn3 {w : Cond} (h : w ∈ tables_1_3) : w ∈ lw_tbl := List.mem_append_right _ (show w ∈ tables_1 from List.mem_append_right _ (List.mem_append_right _ (List.mem_append_left _ h)))
theorem tb3 {w : Cond} (h : w ∈ tables_1_3) (g : goodWord w = true) : w ∈ lwT := List.mem_filter.mpr ⟨tn3 h, g⟩
theorem tn4 {w : Cond} (h : w ∈ tables_1_4) : w ∈ lw_tbl := List.mem_append_right _ (show w ∈ tables_1 from List.mem_append_right _ (List.mem_append_right _ (List.mem_append_right _ (List.mem_append_left _ h))))
theorem tb4 {w : Cond} (h : w ∈ tables_1_4) (g : goodWord w = true) : w ∈ lwT := List.mem_filter.mpr ⟨tn4 h, g⟩
theorem tn5 {w : Cond} (h : w ∈ tables_1_5) : w ∈ lw_tbl := List.mem_append_right _ (show w ∈ tables_1 from List.mem_append_right _ (List.mem_append_right _ (List.mem_append_right _ (List.mem_append_right _ (List.mem_append_left _ h)))))
theorem tb5 {w : Cond} (h : w ∈ tables_1_5) (g : goodWord w = true) : w ∈ lwT := List.mem_filter.mpr ⟨tn5 h, g⟩
theorem tn6 {w : Cond} (h : w ∈ tables_1_6) : w ∈ lw_tbl := List.mem_append_right _ (show w ∈ tables_1 from List.mem_append_right _ (List.mem_append_right _ (List.mem_append_right _ (List.mem_append_right _ (List.mem_append_right _ (h))))))
theorem tb6 {w : Cond} (h : w ∈ tables_1_6) (g : goodWord w = true) : w ∈ lwT := List.mem_filter.mpr ⟨tn6 h, g⟩
theorem tb0 {w : Cond} (h : w ∈ k2_sels lw_privs) (g : goodWord w = true) : w ∈ lwT := List.mem_filter.mpr ⟨List.mem_append_left _ h, g⟩
def RX0 : String := "ChainBooks$Auditor"
def TX0 : u_T := fun k => match k with
  | 0 => ("ChainBooks$Auditor", "mirror", "LChainBooks$Ledger;", true)
  | _ => ("ChainBooks$Auditor", "legs", "LChainBooks$Legs;", true)
def tyX0 : Nat → FieldType := fun k => match k with
  | 0 => .object "ChainBooks$Ledger"
  | _ => .object "ChainBooks$Legs"
abbrev wsX00 : List Cond := u_ws RX0 TX0 2
theorem nmX0 : ∀ a, a < 2 → ∀ b, b < 2 → a ≠ b → (TX0 a).2.1 ≠ (TX0 b).2.1 := by decide +kernel
theorem tyX0_ok : ∀ k, k < 2 → parseFieldDescriptor (TX0 k).2.2.1 = some (tyX0 k) := by decide +kernel
abbrev cX0_init : ByteArray := prog_2_method_1_code
def yX0_init : MethodName := ⟨RX0, "<init>", "()V"⟩
abbrev cX0_firstBad : ByteArray := prog_2_method_2_code
def yX0_firstBad : MethodName := ⟨RX0, "firstBad", "(LChainBooks$Pages;[I)I"⟩
abbrev cX0_callAgain : ByteArray := prog_2_method_3_code
def yX0_callAgain : MethodName := ⟨RX0, "callAgain", "(LChainBooks$Pages;I)V"⟩
abbrev cX0_readLegs : ByteArray := prog_2_method_4_code
def yX0_readLegs : MethodName := ⟨RX0, "readLegs", "(LChainBooks$Pages;I)Z"⟩
abbrev cX0_stands : ByteArray := prog_2_method_5_code
def yX0_stands : MethodName := ⟨RX0, "stands", "(LChainBooks$Pages;I)Z"⟩
def RX1 : String := "ChainBooks$Draft"
def TX1 : u_T := fun k => match k with
  | 0 => ("ChainBooks$Draft", "bytes", "[B", true)
  | _ => ("ChainBooks$Draft", "size", "I", false)
def tyX1 : Nat → FieldType := fun k => match k with
  | 0 => .array .byte
  | _ => .int
abbrev wsX10 : List Cond := u_ws RX1 TX1 2
theorem nmX1 : ∀ a, a < 2 → ∀ b, b < 2 → a ≠ b → (TX1 a).2.1 ≠ (TX1 b).2.1 := by decide +kernel
theorem tyX1_ok : ∀ k, k < 2 → parseFieldDescriptor (TX1 k).2.2.1 = some (tyX1 k) := by decide +kernel
abbrev cX1_init : ByteArray := prog_3_method_1_code
def yX1_init : MethodName := ⟨RX1, "<init>", "()V"⟩
abbrev cX1_begin : ByteArray := prog_3_method_2_code
def yX1_begin : MethodName := ⟨RX1, "begin", "(I)V"⟩
abbrev cX1_beginKeyed : ByteArray := prog_3_method_3_code
def yX1_beginKeyed : MethodName := ⟨RX1, "beginKeyed", "(IJ)V"⟩
abbrev cX1_add : ByteArray := prog_3_method_4_code
def yX1_add : MethodName := ⟨RX1, "add", "(JI)V"⟩
def RX2 : String := "ChainBooks$Head"
def TX2 : u_T := fun k => match k with
  | 0 => ("ChainBooks$Head", "chain", "[I", true)
  | 1 => ("ChainBooks$Head", "tree", "[I", true)
  | _ => ("ChainBooks$Head", "entries", "I", false)
def tyX2 : Nat → FieldType := fun k => match k with
  | 0 => .array .int
  | 1 => .array .int
  | _ => .int
abbrev wsX20 : List Cond := u_ws RX2 TX2 3
theorem nmX2 : ∀ a, a < 3 → ∀ b, b < 3 → a ≠ b → (TX2 a).2.1 ≠ (TX2 b).2.1 := by decide +kernel
theorem tyX2_ok : ∀ k, k < 3 → parseFieldDescriptor (TX2 k).2.2.1 = some (tyX2 k) := by decide +kernel
abbrev cX2_init : ByteArray := prog_4_method_1_code
def yX2_init : MethodName := ⟨RX2, "<init>", "()V"⟩
def RX3 : String := "ChainBooks$Ledger"
def TX3 : u_T := fun k => match k with
  | 0 => ("ChainBooks$Ledger", "floor", "[J", true)
  | 1 => ("ChainBooks$Ledger", "balance", "[J", true)
  | 2 => ("ChainBooks$Ledger", "held", "[J", true)
  | 3 => ("ChainBooks$Ledger", "balanceBehind", "[J", true)
  | 4 => ("ChainBooks$Ledger", "accounts", "I", false)
  | 5 => ("ChainBooks$Ledger", "made", "[B", true)
  | 6 => ("ChainBooks$Ledger", "start", "[I", true)
  | 7 => ("ChainBooks$Ledger", "keys", "[J", true)
  | 8 => ("ChainBooks$Ledger", "endedBy", "[I", true)
  | 9 => ("ChainBooks$Ledger", "legCount", "[I", true)
  | 10 => ("ChainBooks$Ledger", "legAccount", "[I", true)
  | 11 => ("ChainBooks$Ledger", "legAmount", "[J", true)
  | 12 => ("ChainBooks$Ledger", "entries", "I", false)
  | 13 => ("ChainBooks$Ledger", "draft", "LChainBooks$Draft;", true)
  | 14 => ("ChainBooks$Ledger", "moving", "LChainBooks$Legs;", true)
  | 15 => ("ChainBooks$Ledger", "holdsThere", "I", false)
  | 16 => ("ChainBooks$Ledger", "every", "I", false)
  | _ => ("ChainBooks$Ledger", "sinceTrial", "I", false)
def tyX3 : Nat → FieldType := fun k => match k with
  | 0 => .array .long
  | 1 => .array .long
  | 2 => .array .long
  | 3 => .array .long
  | 4 => .int
  | 5 => .array .byte
  | 6 => .array .int
  | 7 => .array .long
  | 8 => .array .int
  | 9 => .array .int
  | 10 => .array .int
  | 11 => .array .long
  | 12 => .int
  | 13 => .object "ChainBooks$Draft"
  | 14 => .object "ChainBooks$Legs"
  | 15 => .int
  | 16 => .int
  | _ => .int
abbrev wsX30 : List Cond := u_ws RX3 TX3 18
theorem nmX3 : ∀ a, a < 18 → ∀ b, b < 18 → a ≠ b → (TX3 a).2.1 ≠ (TX3 b).2.1 := by decide +kernel
theorem tyX3_ok : ∀ k, k < 18 → parseFieldDescriptor (TX3 k).2.2.1 = some (tyX3 k) := by decide +kernel
abbrev cX3_init : ByteArray := prog_5_method_1_code
def yX3_init : MethodName := ⟨RX3, "<init>", "()V"⟩
abbrev cX3_startAnew : ByteArray := prog_5_method_2_code
def yX3_startAnew : MethodName := ⟨RX3, "startAnew", "()V"⟩
abbrev cX3_startEvery : ByteArray := prog_5_method_3_code
def yX3_startEvery : MethodName := ⟨RX3, "startEvery", "(I)V"⟩
abbrev cX3_addAccount : ByteArray := prog_5_method_4_code
def yX3_addAccount : MethodName := ⟨RX3, "addAccount", "(J)I"⟩
abbrev cX3_addPost : ByteArray := prog_5_method_5_code
def yX3_addPost : MethodName := ⟨RX3, "addPost", "(JLChainBooks$Legs;)I"⟩
abbrev cX3_addHold : ByteArray := prog_5_method_6_code
def yX3_addHold : MethodName := ⟨RX3, "addHold", "(JIJ)I"⟩
abbrev cX3_addRelease : ByteArray := prog_5_method_7_code
def yX3_addRelease : MethodName := ⟨RX3, "addRelease", "(I)I"⟩
abbrev cX3_addCapture : ByteArray := prog_5_method_8_code
def yX3_addCapture : MethodName := ⟨RX3, "addCapture", "(JIIJ)I"⟩
abbrev cX3_addReversal : ByteArray := prog_5_method_9_code
def yX3_addReversal : MethodName := ⟨RX3, "addReversal", "(JI)I"⟩
abbrev cX3_kindOf : ByteArray := prog_5_method_10_code
def yX3_kindOf : MethodName := ⟨RX3, "kindOf", "(I)I"⟩
abbrev cX3_answeredBefore : ByteArray := prog_5_method_11_code
def yX3_answeredBefore : MethodName := ⟨RX3, "answeredBefore", "(J)I"⟩
abbrev cX3_isAsDrafted : ByteArray := prog_5_method_12_code
def yX3_isAsDrafted : MethodName := ⟨RX3, "isAsDrafted", "(I)Z"⟩
abbrev cX3_areThere : ByteArray := prog_5_method_13_code
def yX3_areThere : MethodName := ⟨RX3, "areThere", "(LChainBooks$Legs;)Z"⟩
abbrev cX3_weigh : ByteArray := prog_5_method_14_code
def yX3_weigh : MethodName := ⟨RX3, "weigh", "(LChainBooks$Legs;IJ)I"⟩
abbrev cX3_move : ByteArray := prog_5_method_15_code
def yX3_move : MethodName := ⟨RX3, "move", "(JLChainBooks$Legs;)I"⟩
abbrev cX3_addTrial : ByteArray := prog_5_method_16_code
def yX3_addTrial : MethodName := ⟨RX3, "addTrial", "()V"⟩
abbrev cX3_isHoldThere : ByteArray := prog_5_method_17_code
def yX3_isHoldThere : MethodName := ⟨RX3, "isHoldThere", "(I)Z"⟩
abbrev cX3_accountHeld : ByteArray := prog_5_method_18_code
def yX3_accountHeld : MethodName := ⟨RX3, "accountHeld", "(I)I"⟩
abbrev cX3_amountHeld : ByteArray := prog_5_method_19_code
def yX3_amountHeld : MethodName := ⟨RX3, "amountHeld", "(I)J"⟩
abbrev cX3_endHold : ByteArray := prog_5_method_20_code
def yX3_endHold : MethodName := ⟨RX3, "endHold", "(II)V"⟩
abbrev cX3_append : ByteArray := prog_5_method_21_code
def yX3_append : MethodName := ⟨RX3, "append", "(J)I"⟩
def RX4 : String := "ChainBooks$Legs"
def TX4 : u_T := fun k => match k with
  | 0 => ("ChainBooks$Legs", "account", "[I", true)
  | 1 => ("ChainBooks$Legs", "amount", "[J", true)
  | _ => ("ChainBooks$Legs", "size", "I", false)
def tyX4 : Nat → FieldType := fun k => match k with
  | 0 => .array .int
  | 1 => .array .long
  | _ => .int
abbrev wsX40 : List Cond := u_ws RX4 TX4 3
theorem nmX4 : ∀ a, a < 3 → ∀ b, b < 3 → a ≠ b → (TX4 a).2.1 ≠ (TX4 b).2.1 := by decide +kernel
theorem tyX4_ok : ∀ k, k < 3 → parseFieldDescriptor (TX4 k).2.2.1 = some (tyX4 k) := by decide +kernel
abbrev cX4_init : ByteArray := prog_6_method_1_code
def yX4_init : MethodName := ⟨RX4, "<init>", "()V"⟩
abbrev cX4_add : ByteArray := prog_6_method_2_code
def yX4_add : MethodName := ⟨RX4, "add", "(IJ)Z"⟩
abbrev cX4_comeToNothing : ByteArray := prog_6_method_3_code
def yX4_comeToNothing : MethodName := ⟨RX4, "comeToNothing", "()Z"⟩
def RX5 : String := "ChainBooks$Pages"
def TX5 : u_T := fun k => match k with
  | 0 => ("ChainBooks$Pages", "now", "[B", true)
  | 1 => ("ChainBooks$Pages", "start", "[I", true)
  | 2 => ("ChainBooks$Pages", "entries", "I", false)
  | 3 => ("ChainBooks$Pages", "sha", "LChainBooks$Sha;", true)
  | 4 => ("ChainBooks$Pages", "chain", "[[I", true)
  | 5 => ("ChainBooks$Pages", "chained", "I", false)
  | 6 => ("ChainBooks$Pages", "nodes", "[[I", true)
  | _ => ("ChainBooks$Pages", "known", "[Z", true)
def tyX5 : Nat → FieldType := fun k => match k with
  | 0 => .array .byte
  | 1 => .array .int
  | 2 => .int
  | 3 => .object "ChainBooks$Sha"
  | 4 => .array (.array .int)
  | 5 => .int
  | 6 => .array (.array .int)
  | _ => .array .boolean
abbrev wsX50 : List Cond := u_ws RX5 TX5 8
theorem nmX5 : ∀ a, a < 8 → ∀ b, b < 8 → a ≠ b → (TX5 a).2.1 ≠ (TX5 b).2.1 := by decide +kernel
theorem tyX5_ok : ∀ k, k < 8 → parseFieldDescriptor (TX5 k).2.2.1 = some (tyX5 k) := by decide +kernel
abbrev cX5_init : ByteArray := prog_7_method_1_code
def yX5_init : MethodName := ⟨RX5, "<init>", "()V"⟩
abbrev cX5_size : ByteArray := prog_7_method_2_code
def yX5_size : MethodName := ⟨RX5, "size", "()I"⟩
abbrev cX5_follow : ByteArray := prog_7_method_3_code
def yX5_follow : MethodName := ⟨RX5, "follow", "(LChainBooks$Ledger;)V"⟩
abbrev cX5_number : ByteArray := prog_7_method_4_code
def yX5_number : MethodName := ⟨RX5, "number", "(II)J"⟩
abbrev cX5_flip : ByteArray := prog_7_method_5_code
def yX5_flip : MethodName := ⟨RX5, "flip", "(II)V"⟩
abbrev cX5_entryWith : ByteArray := prog_7_method_6_code
def yX5_entryWith : MethodName := ⟨RX5, "entryWith", "(I)I"⟩
abbrev cX5_chainBehind : ByteArray := prog_7_method_7_code
def yX5_chainBehind : MethodName := ⟨RX5, "chainBehind", "(I)[I"⟩
abbrev cX5_leafOf : ByteArray := prog_7_method_8_code
def yX5_leafOf : MethodName := ⟨RX5, "leafOf", "(I)[I"⟩
abbrev cX5_treeOf : ByteArray := prog_7_method_9_code
def yX5_treeOf : MethodName := ⟨RX5, "treeOf", "(II[I)V"⟩
abbrev cX5_nodeOf : ByteArray := prog_7_method_10_code
def yX5_nodeOf : MethodName := ⟨RX5, "nodeOf", "(II)[I"⟩
abbrev cX5_learn : ByteArray := prog_7_method_11_code
def yX5_learn : MethodName := ⟨RX5, "learn", "(I)V"⟩
def RX6 : String := "ChainBooks$Sha"
def TX6 : u_T := fun k => match k with
  | 0 => ("ChainBooks$Sha", "text", "[B", true)
  | 1 => ("ChainBooks$Sha", "size", "I", false)
  | 2 => ("ChainBooks$Sha", "schedule", "[I", true)
  | _ => ("ChainBooks$Sha", "state", "[I", true)
def tyX6 : Nat → FieldType := fun k => match k with
  | 0 => .array .byte
  | 1 => .int
  | 2 => .array .int
  | _ => .array .int
abbrev wsX60 : List Cond := u_ws RX6 TX6 4
theorem nmX6 : ∀ a, a < 4 → ∀ b, b < 4 → a ≠ b → (TX6 a).2.1 ≠ (TX6 b).2.1 := by decide +kernel
theorem tyX6_ok : ∀ k, k < 4 → parseFieldDescriptor (TX6 k).2.2.1 = some (tyX6 k) := by decide +kernel
abbrev cX6_init : ByteArray := prog_8_method_1_code
def yX6_init : MethodName := ⟨RX6, "<init>", "()V"⟩
abbrev cX6_begin : ByteArray := prog_8_method_2_code
def yX6_begin : MethodName := ⟨RX6, "begin", "()V"⟩
abbrev cX6_add : ByteArray := prog_8_method_3_code
def yX6_add : MethodName := ⟨RX6, "add", "(I)V"⟩
abbrev cX6_addBytes : ByteArray := prog_8_method_4_code
def yX6_addBytes : MethodName := ⟨RX6, "addBytes", "([BII)V"⟩
abbrev cX6_addHash : ByteArray := prog_8_method_5_code
def yX6_addHash : MethodName := ⟨RX6, "addHash", "([I)V"⟩
abbrev cX6_join : ByteArray := prog_8_method_6_code
def yX6_join : MethodName := ⟨RX6, "join", "([I[I[I)V"⟩
abbrev cX6_end : ByteArray := prog_8_method_7_code
def yX6_end : MethodName := ⟨RX6, "end", "([I)V"⟩
abbrev cX6_readSchedule : ByteArray := prog_8_method_8_code
def yX6_readSchedule : MethodName := ⟨RX6, "readSchedule", "(I)V"⟩
abbrev cX6_mix : ByteArray := prog_8_method_9_code
def yX6_mix : MethodName := ⟨RX6, "mix", "()V"⟩
def RX7 : String := "ChainBooks$Trail"
def TX7 : u_T := fun k => match k with
  | 0 => ("ChainBooks$Trail", "hashes", "[[I", true)
  | 1 => ("ChainBooks$Trail", "steps", "I", false)
  | 2 => ("ChainBooks$Trail", "isMade", "Z", false)
  | 3 => ("ChainBooks$Trail", "isProof", "Z", false)
  | 4 => ("ChainBooks$Trail", "from", "I", false)
  | 5 => ("ChainBooks$Trail", "till", "I", false)
  | 6 => ("ChainBooks$Trail", "wentRight", "[Z", true)
  | 7 => ("ChainBooks$Trail", "asideFirst", "[I", true)
  | 8 => ("ChainBooks$Trail", "asideSize", "[I", true)
  | 9 => ("ChainBooks$Trail", "turns", "I", false)
  | 10 => ("ChainBooks$Trail", "endFirst", "I", false)
  | 11 => ("ChainBooks$Trail", "endSize", "I", false)
  | 12 => ("ChainBooks$Trail", "sha", "LChainBooks$Sha;", true)
  | 13 => ("ChainBooks$Trail", "older", "[I", true)
  | _ => ("ChainBooks$Trail", "newer", "[I", true)
def tyX7 : Nat → FieldType := fun k => match k with
  | 0 => .array (.array .int)
  | 1 => .int
  | 2 => .boolean
  | 3 => .boolean
  | 4 => .int
  | 5 => .int
  | 6 => .array .boolean
  | 7 => .array .int
  | 8 => .array .int
  | 9 => .int
  | 10 => .int
  | 11 => .int
  | 12 => .object "ChainBooks$Sha"
  | 13 => .array .int
  | _ => .array .int
abbrev wsX70 : List Cond := u_ws RX7 TX7 15
theorem nmX7 : ∀ a, a < 15 → ∀ b, b < 15 → a ≠ b → (TX7 a).2.1 ≠ (TX7 b).2.1 := by decide +kernel
theorem tyX7_ok : ∀ k, k < 15 → parseFieldDescriptor (TX7 k).2.2.1 = some (tyX7 k) := by decide +kernel
abbrev cX7_init : ByteArray := prog_9_method_1_code
def yX7_init : MethodName := ⟨RX7, "<init>", "()V"⟩
abbrev cX7_make : ByteArray := prog_9_method_2_code
def yX7_make : MethodName := ⟨RX7, "make", "(LChainBooks$Pages;ZII)V"⟩
abbrev cX7_reaches : ByteArray := prog_9_method_3_code
def yX7_reaches : MethodName := ⟨RX7, "reaches", "([ILChainBooks$Head;)Z"⟩
abbrev cX7_joins : ByteArray := prog_9_method_4_code
def yX7_joins : MethodName := ⟨RX7, "joins", "(LChainBooks$Head;LChainBooks$Head;)Z"⟩
abbrev cX7_hasOwnBeginning : ByteArray := prog_9_method_5_code
def yX7_hasOwnBeginning : MethodName := ⟨RX7, "hasOwnBeginning", "()Z"⟩
abbrev cX7_goDown : ByteArray := prog_9_method_6_code
def yX7_goDown : MethodName := ⟨RX7, "goDown", "(I)V"⟩
abbrev cX7_isEnd : ByteArray := prog_9_method_7_code
def yX7_isEnd : MethodName := ⟨RX7, "isEnd", "(I)Z"⟩
abbrev cX7_powerBelow : ByteArray := prog_9_method_8_code
def yX7_powerBelow : MethodName := ⟨RX7, "powerBelow", "(I)I"⟩
abbrev cX7_goUp : ByteArray := prog_9_method_9_code
def yX7_goUp : MethodName := ⟨RX7, "goUp", "([I)V"⟩
def RX8 : String := "ChainBooks"
def TX8 : u_T := fun k => match k with
  | 0 => ("ChainBooks", "ledger", "LChainBooks$Ledger;", true)
  | 1 => ("ChainBooks", "told", "LChainBooks$Legs;", true)
  | 2 => ("ChainBooks", "everyTold", "[I", true)
  | 3 => ("ChainBooks", "pages", "LChainBooks$Pages;", true)
  | 4 => ("ChainBooks", "heads", "[LChainBooks$Head;", true)
  | 5 => ("ChainBooks", "trail", "LChainBooks$Trail;", true)
  | 6 => ("ChainBooks", "auditor", "LChainBooks$Auditor;", true)
  | _ => ("ChainBooks", "spareHash", "[I", true)
def tyX8 : Nat → FieldType := fun k => match k with
  | 0 => .object "ChainBooks$Ledger"
  | 1 => .object "ChainBooks$Legs"
  | 2 => .array .int
  | 3 => .object "ChainBooks$Pages"
  | 4 => .array (.object "ChainBooks$Head")
  | 5 => .object "ChainBooks$Trail"
  | 6 => .object "ChainBooks$Auditor"
  | _ => .array .int
abbrev wsX80 : List Cond := u_ws RX8 TX8 8
theorem nmX8 : ∀ a, a < 8 → ∀ b, b < 8 → a ≠ b → (TX8 a).2.1 ≠ (TX8 b).2.1 := by decide +kernel
theorem tyX8_ok : ∀ k, k < 8 → parseFieldDescriptor (TX8 k).2.2.1 = some (tyX8 k) := by decide +kernel
abbrev cX8_init : ByteArray := prog_1_method_1_code
def yX8_init : MethodName := ⟨RX8, "<init>", "()V"⟩
abbrev cX8_open : ByteArray := prog_1_method_2_code
def yX8_open : MethodName := ⟨RX8, "open", "(J)I"⟩
abbrev cX8_leg : ByteArray := prog_1_method_3_code
def yX8_leg : MethodName := ⟨RX8, "leg", "(IJ)I"⟩
abbrev cX8_clear : ByteArray := prog_1_method_4_code
def yX8_clear : MethodName := ⟨RX8, "clear", "()I"⟩
abbrev cX8_post : ByteArray := prog_1_method_5_code
def yX8_post : MethodName := ⟨RX8, "post", "(J)I"⟩
abbrev cX8_hold : ByteArray := prog_1_method_6_code
def yX8_hold : MethodName := ⟨RX8, "hold", "(JIJ)I"⟩
abbrev cX8_release : ByteArray := prog_1_method_7_code
def yX8_release : MethodName := ⟨RX8, "release", "(I)I"⟩
abbrev cX8_capture : ByteArray := prog_1_method_8_code
def yX8_capture : MethodName := ⟨RX8, "capture", "(JIIJ)I"⟩
abbrev cX8_reverse : ByteArray := prog_1_method_9_code
def yX8_reverse : MethodName := ⟨RX8, "reverse", "(JI)I"⟩
abbrev cX8_every : ByteArray := prog_1_method_10_code
def yX8_every : MethodName := ⟨RX8, "every", "(I)I"⟩
abbrev cX8_account : ByteArray := prog_1_method_11_code
def yX8_account : MethodName := ⟨RX8, "account", "(II)J"⟩
abbrev cX8_entry : ByteArray := prog_1_method_12_code
def yX8_entry : MethodName := ⟨RX8, "entry", "(II)J"⟩
abbrev cX8_data : ByteArray := prog_1_method_13_code
def yX8_data : MethodName := ⟨RX8, "data", "(I)I"⟩
abbrev cX8_alter : ByteArray := prog_1_method_14_code
def yX8_alter : MethodName := ⟨RX8, "alter", "(II)I"⟩
abbrev cX8_hash : ByteArray := prog_1_method_15_code
def yX8_hash : MethodName := ⟨RX8, "hash", "(III)I"⟩
abbrev cX8_keep : ByteArray := prog_1_method_16_code
def yX8_keep : MethodName := ⟨RX8, "keep", "(I)I"⟩
abbrev cX8_verify : ByteArray := prog_1_method_17_code
def yX8_verify : MethodName := ⟨RX8, "verify", "(I)I"⟩
abbrev cX8_path : ByteArray := prog_1_method_18_code
def yX8_path : MethodName := ⟨RX8, "path", "(II)I"⟩
abbrev cX8_proof : ByteArray := prog_1_method_19_code
def yX8_proof : MethodName := ⟨RX8, "proof", "(II)I"⟩
abbrev cX8_step : ByteArray := prog_1_method_20_code
def yX8_step : MethodName := ⟨RX8, "step", "(II)I"⟩
abbrev cX8_leads : ByteArray := prog_1_method_21_code
def yX8_leads : MethodName := ⟨RX8, "leads", "(II)I"⟩
abbrev cX8_audit : ByteArray := prog_1_method_22_code
def yX8_audit : MethodName := ⟨RX8, "audit", "()I"⟩
abbrev cX8_count : ByteArray := prog_1_method_23_code
def yX8_count : MethodName := ⟨RX8, "count", "(I)I"⟩
abbrev cX8_written : ByteArray := prog_1_method_24_code
def yX8_written : MethodName := ⟨RX8, "written", "(I)I"⟩
abbrev cX8_legOf : ByteArray := prog_1_method_25_code
def yX8_legOf : MethodName := ⟨RX8, "legOf", "(II)J"⟩
abbrev cX8_alteredBytes : ByteArray := prog_1_method_26_code
def yX8_alteredBytes : MethodName := ⟨RX8, "alteredBytes", "()I"⟩
abbrev cX8_isHeadOf : ByteArray := prog_1_method_27_code
def yX8_isHeadOf : MethodName := ⟨RX8, "isHeadOf", "(II)Z"⟩
abbrev cX8_oneIf : ByteArray := prog_1_method_28_code
def yX8_oneIf : MethodName := ⟨RX8, "oneIf", "(Z)I"⟩
abbrev cX8_byteOf : ByteArray := prog_1_method_29_code
def yX8_byteOf : MethodName := ⟨RX8, "byteOf", "([II)I"⟩
abbrev cX8_copyHash : ByteArray := prog_1_method_30_code
def yX8_copyHash : MethodName := ⟨RX8, "copyHash", "([I[I)V"⟩
abbrev cX8_sameHash : ByteArray := prog_1_method_31_code
def yX8_sameHash : MethodName := ⟨RX8, "sameHash", "([I[I)Z"⟩
abbrev cX8_isByte : ByteArray := prog_1_method_32_code
def yX8_isByte : MethodName := ⟨RX8, "isByte", "(I)Z"⟩
abbrev cX8_canBeEntry : ByteArray := prog_1_method_33_code
def yX8_canBeEntry : MethodName := ⟨RX8, "canBeEntry", "(I)Z"⟩
abbrev cX8_isBelow : ByteArray := prog_1_method_34_code
def yX8_isBelow : MethodName := ⟨RX8, "isBelow", "(JJ)Z"⟩
def RX9 : String := "ChainBooksModel"
def TX9 : u_T := fun k => match k with
  | 0 => ("ChainBooksModel", "accounts", "[I", true)
  | 1 => ("ChainBooksModel", "entries", "[I", true)
  | 2 => ("ChainBooksModel", "every", "[I", true)
  | 3 => ("ChainBooksModel", "since", "[I", true)
  | 4 => ("ChainBooksModel", "isDue", "[Z", true)
  | 5 => ("ChainBooksModel", "floor", "[J", true)
  | 6 => ("ChainBooksModel", "balance", "[J", true)
  | 7 => ("ChainBooksModel", "heldHigh", "[J", true)
  | 8 => ("ChainBooksModel", "heldLow", "[J", true)
  | 9 => ("ChainBooksModel", "kind", "[I", true)
  | 10 => ("ChainBooksModel", "keys", "[J", true)
  | 11 => ("ChainBooksModel", "legs", "[I", true)
  | 12 => ("ChainBooksModel", "legAccount", "[I", true)
  | 13 => ("ChainBooksModel", "legAmount", "[J", true)
  | 14 => ("ChainBooksModel", "holdAccount", "[I", true)
  | 15 => ("ChainBooksModel", "holdAmount", "[J", true)
  | 16 => ("ChainBooksModel", "isThere", "[Z", true)
  | 17 => ("ChainBooksModel", "endedBy", "[I", true)
  | 18 => ("ChainBooksModel", "data", "[I", true)
  | 19 => ("ChainBooksModel", "made", "[I", true)
  | 20 => ("ChainBooksModel", "bytes", "I", false)
  | 21 => ("ChainBooksModel", "begin", "[I", true)
  | 22 => ("ChainBooksModel", "size", "[I", true)
  | 23 => ("ChainBooksModel", "toldAt", "[I", true)
  | 24 => ("ChainBooksModel", "toldEvery", "[I", true)
  | 25 => ("ChainBooksModel", "tolds", "I", false)
  | 26 => ("ChainBooksModel", "cKind", "I", false)
  | 27 => ("ChainBooksModel", "cLegs", "I", false)
  | 28 => ("ChainBooksModel", "cEntry", "I", false)
  | 29 => ("ChainBooksModel", "cAccount", "I", false)
  | 30 => ("ChainBooksModel", "cKey", "J", false)
  | 31 => ("ChainBooksModel", "cAmount", "J", false)
  | 32 => ("ChainBooksModel", "cLegAccount", "[I", true)
  | 33 => ("ChainBooksModel", "cLegAmount", "[J", true)
  | 34 => ("ChainBooksModel", "row", "[I", true)
  | 35 => ("ChainBooksModel", "rowSize", "I", false)
  | 36 => ("ChainBooksModel", "after", "[J", true)
  | 37 => ("ChainBooksModel", "told", "I", false)
  | 38 => ("ChainBooksModel", "toldAccount", "[I", true)
  | 39 => ("ChainBooksModel", "toldAmount", "[J", true)
  | 40 => ("ChainBooksModel", "rounds", "[I", true)
  | 41 => ("ChainBooksModel", "message", "[I", true)
  | 42 => ("ChainBooksModel", "length", "I", false)
  | 43 => ("ChainBooksModel", "words", "[I", true)
  | 44 => ("ChainBooksModel", "state", "[I", true)
  | 45 => ("ChainBooksModel", "hash", "[I", true)
  | 46 => ("ChainBooksModel", "waits", "[I", true)
  | 47 => ("ChainBooksModel", "waitSize", "[I", true)
  | 48 => ("ChainBooksModel", "headMany", "[I", true)
  | 49 => ("ChainBooksModel", "isKept", "[Z", true)
  | 50 => ("ChainBooksModel", "headChain", "[I", true)
  | 51 => ("ChainBooksModel", "headTree", "[I", true)
  | 52 => ("ChainBooksModel", "sort", "I", false)
  | 53 => ("ChainBooksModel", "first", "I", false)
  | 54 => ("ChainBooksModel", "all", "I", false)
  | 55 => ("ChainBooksModel", "steps", "I", false)
  | 56 => ("ChainBooksModel", "stepHash", "[I", true)
  | 57 => ("ChainBooksModel", "isLeft", "[Z", true)
  | 58 => ("ChainBooksModel", "sideFrom", "[I", true)
  | 59 => ("ChainBooksModel", "sideTo", "[I", true)
  | 60 => ("ChainBooksModel", "ways", "I", false)
  | 61 => ("ChainBooksModel", "downFrom", "I", false)
  | 62 => ("ChainBooksModel", "downTo", "I", false)
  | 63 => ("ChainBooksModel", "isWhole", "Z", false)
  | 64 => ("ChainBooksModel", "older", "[I", true)
  | 65 => ("ChainBooksModel", "newer", "[I", true)
  | _ => ("ChainBooksModel", "at", "I", false)
def tyX9 : Nat → FieldType := fun k => match k with
  | 0 => .array .int
  | 1 => .array .int
  | 2 => .array .int
  | 3 => .array .int
  | 4 => .array .boolean
  | 5 => .array .long
  | 6 => .array .long
  | 7 => .array .long
  | 8 => .array .long
  | 9 => .array .int
  | 10 => .array .long
  | 11 => .array .int
  | 12 => .array .int
  | 13 => .array .long
  | 14 => .array .int
  | 15 => .array .long
  | 16 => .array .boolean
  | 17 => .array .int
  | 18 => .array .int
  | 19 => .array .int
  | 20 => .int
  | 21 => .array .int
  | 22 => .array .int
  | 23 => .array .int
  | 24 => .array .int
  | 25 => .int
  | 26 => .int
  | 27 => .int
  | 28 => .int
  | 29 => .int
  | 30 => .long
  | 31 => .long
  | 32 => .array .int
  | 33 => .array .long
  | 34 => .array .int
  | 35 => .int
  | 36 => .array .long
  | 37 => .int
  | 38 => .array .int
  | 39 => .array .long
  | 40 => .array .int
  | 41 => .array .int
  | 42 => .int
  | 43 => .array .int
  | 44 => .array .int
  | 45 => .array .int
  | 46 => .array .int
  | 47 => .array .int
  | 48 => .array .int
  | 49 => .array .boolean
  | 50 => .array .int
  | 51 => .array .int
  | 52 => .int
  | 53 => .int
  | 54 => .int
  | 55 => .int
  | 56 => .array .int
  | 57 => .array .boolean
  | 58 => .array .int
  | 59 => .array .int
  | 60 => .int
  | 61 => .int
  | 62 => .int
  | 63 => .boolean
  | 64 => .array .int
  | 65 => .array .int
  | _ => .int
abbrev wsX90 : List Cond := u_ws RX9 TX9 67
theorem nmX9 : ∀ a, a < 67 → ∀ b, b < 67 → a ≠ b → (TX9 a).2.1 ≠ (TX9 b).2.1 := by decide +kernel
theorem tyX9_ok : ∀ k, k < 67 → parseFieldDescriptor (TX9 k).2.2.1 = some (tyX9 k) := by decide +kernel
abbrev cX9_init : ByteArray := prog_11_method_1_code
def yX9_init : MethodName := ⟨RX9, "<init>", "()V"⟩
abbrev cX9_begins : ByteArray := prog_11_method_2_code
def yX9_begins : MethodName := ⟨RX9, "begins", "(IJ)V"⟩
abbrev cX9_put : ByteArray := prog_11_method_3_code
def yX9_put : MethodName := ⟨RX9, "put", "(I)V"⟩
abbrev cX9_putLong : ByteArray := prog_11_method_4_code
def yX9_putLong : MethodName := ⟨RX9, "putLong", "(J)V"⟩
abbrev cX9_putShort : ByteArray := prog_11_method_5_code
def yX9_putShort : MethodName := ⟨RX9, "putShort", "(I)V"⟩
abbrev cX9_leg : ByteArray := prog_11_method_6_code
def yX9_leg : MethodName := ⟨RX9, "leg", "(IJI)V"⟩
abbrev cX9_byKey : ByteArray := prog_11_method_7_code
def yX9_byKey : MethodName := ⟨RX9, "byKey", "(IJ)I"⟩
abbrev cX9_isSame : ByteArray := prog_11_method_8_code
def yX9_isSame : MethodName := ⟨RX9, "isSame", "(I)Z"⟩
abbrev cX9_isHold : ByteArray := prog_11_method_9_code
def yX9_isHold : MethodName := ⟨RX9, "isHold", "(II)Z"⟩
abbrev cX9_isAccount : ByteArray := prog_11_method_10_code
def yX9_isAccount : MethodName := ⟨RX9, "isAccount", "(II)Z"⟩
abbrev cX9_isUnknown : ByteArray := prog_11_method_11_code
def yX9_isUnknown : MethodName := ⟨RX9, "isUnknown", "(I)Z"⟩
abbrev cX9_isUneven : ByteArray := prog_11_method_12_code
def yX9_isUneven : MethodName := ⟨RX9, "isUneven", "()Z"⟩
abbrev cX9_isOver : ByteArray := prog_11_method_13_code
def yX9_isOver : MethodName := ⟨RX9, "isOver", "(I)Z"⟩
abbrev cX9_isBelow : ByteArray := prog_11_method_14_code
def yX9_isBelow : MethodName := ⟨RX9, "isBelow", "(II)Z"⟩
abbrev cX9_refused : ByteArray := prog_11_method_15_code
def yX9_refused : MethodName := ⟨RX9, "refused", "(I)I"⟩
abbrev cX9_hold : ByteArray := prog_11_method_16_code
def yX9_hold : MethodName := ⟨RX9, "hold", "(IIJI)V"⟩
abbrev cX9_does : ByteArray := prog_11_method_17_code
def yX9_does : MethodName := ⟨RX9, "does", "(I)I"⟩
abbrev cX9_trial : ByteArray := prog_11_method_18_code
def yX9_trial : MethodName := ⟨RX9, "trial", "(I)V"⟩
abbrev cX9_writes : ByteArray := prog_11_method_19_code
def yX9_writes : MethodName := ⟨RX9, "writes", "()V"⟩
abbrev cX9_calls : ByteArray := prog_11_method_20_code
def yX9_calls : MethodName := ⟨RX9, "calls", "()I"⟩
abbrev cX9_in : ByteArray := prog_11_method_21_code
def yX9_in : MethodName := ⟨RX9, "in", "(III)Z"⟩
abbrev cX9_open : ByteArray := prog_11_method_22_code
def yX9_open : MethodName := ⟨RX9, "open", "(J)I"⟩
abbrev cX9_leg_ : ByteArray := prog_11_method_23_code
def yX9_leg_ : MethodName := ⟨RX9, "leg", "(IJ)I"⟩
abbrev cX9_clear : ByteArray := prog_11_method_24_code
def yX9_clear : MethodName := ⟨RX9, "clear", "()I"⟩
abbrev cX9_post : ByteArray := prog_11_method_25_code
def yX9_post : MethodName := ⟨RX9, "post", "(J)I"⟩
abbrev cX9_hold_ : ByteArray := prog_11_method_26_code
def yX9_hold_ : MethodName := ⟨RX9, "hold", "(JIJ)I"⟩
abbrev cX9_release : ByteArray := prog_11_method_27_code
def yX9_release : MethodName := ⟨RX9, "release", "(I)I"⟩
abbrev cX9_capture : ByteArray := prog_11_method_28_code
def yX9_capture : MethodName := ⟨RX9, "capture", "(JIIJ)I"⟩
abbrev cX9_reverse : ByteArray := prog_11_method_29_code
def yX9_reverse : MethodName := ⟨RX9, "reverse", "(JI)I"⟩
abbrev cX9_every : ByteArray := prog_11_method_30_code
def yX9_every : MethodName := ⟨RX9, "every", "(I)I"⟩
abbrev cX9_account : ByteArray := prog_11_method_31_code
def yX9_account : MethodName := ⟨RX9, "account", "(II)J"⟩
abbrev cX9_entry : ByteArray := prog_11_method_32_code
def yX9_entry : MethodName := ⟨RX9, "entry", "(II)J"⟩
abbrev cX9_data : ByteArray := prog_11_method_33_code
def yX9_data : MethodName := ⟨RX9, "data", "(I)I"⟩
abbrev cX9_alter : ByteArray := prog_11_method_34_code
def yX9_alter : MethodName := ⟨RX9, "alter", "(II)I"⟩
abbrev cX9_turn : ByteArray := prog_11_method_35_code
def yX9_turn : MethodName := ⟨RX9, "turn", "(II)I"⟩
abbrev cX9_says : ByteArray := prog_11_method_36_code
def yX9_says : MethodName := ⟨RX9, "says", "(I)V"⟩
abbrev cX9_sum : ByteArray := prog_11_method_37_code
def yX9_sum : MethodName := ⟨RX9, "sum", "()V"⟩
abbrev cX9_block : ByteArray := prog_11_method_38_code
def yX9_block : MethodName := ⟨RX9, "block", "(I)V"⟩
abbrev cX9_saysEntry : ByteArray := prog_11_method_39_code
def yX9_saysEntry : MethodName := ⟨RX9, "saysEntry", "(I)V"⟩
abbrev cX9_chain : ByteArray := prog_11_method_40_code
def yX9_chain : MethodName := ⟨RX9, "chain", "(I)V"⟩
abbrev cX9_leaf : ByteArray := prog_11_method_41_code
def yX9_leaf : MethodName := ⟨RX9, "leaf", "(I)V"⟩
abbrev cX9_keepWait : ByteArray := prog_11_method_42_code
def yX9_keepWait : MethodName := ⟨RX9, "keepWait", "(I)V"⟩
abbrev cX9_joins : ByteArray := prog_11_method_43_code
def yX9_joins : MethodName := ⟨RX9, "joins", "(I)V"⟩
abbrev cX9_tree : ByteArray := prog_11_method_44_code
def yX9_tree : MethodName := ⟨RX9, "tree", "(II)V"⟩
abbrev cX9_hash : ByteArray := prog_11_method_45_code
def yX9_hash : MethodName := ⟨RX9, "hash", "(III)I"⟩
abbrev cX9_keep : ByteArray := prog_11_method_46_code
def yX9_keep : MethodName := ⟨RX9, "keep", "(I)I"⟩
abbrev cX9_isAs : ByteArray := prog_11_method_47_code
def yX9_isAs : MethodName := ⟨RX9, "isAs", "([II)Z"⟩
abbrev cX9_verify : ByteArray := prog_11_method_48_code
def yX9_verify : MethodName := ⟨RX9, "verify", "(I)I"⟩
abbrev cX9_half : ByteArray := prog_11_method_49_code
def yX9_half : MethodName := ⟨RX9, "half", "(I)I"⟩
abbrev cX9_down : ByteArray := prog_11_method_50_code
def yX9_down : MethodName := ⟨RX9, "down", "(IIZ)V"⟩
abbrev cX9_step : ByteArray := prog_11_method_51_code
def yX9_step : MethodName := ⟨RX9, "step", "()V"⟩
abbrev cX9_sides : ByteArray := prog_11_method_52_code
def yX9_sides : MethodName := ⟨RX9, "sides", "()V"⟩
abbrev cX9_path : ByteArray := prog_11_method_53_code
def yX9_path : MethodName := ⟨RX9, "path", "(II)I"⟩
abbrev cX9_proof : ByteArray := prog_11_method_54_code
def yX9_proof : MethodName := ⟨RX9, "proof", "(II)I"⟩
abbrev cX9_step_ : ByteArray := prog_11_method_55_code
def yX9_step_ : MethodName := ⟨RX9, "step", "(II)I"⟩
abbrev cX9_beside : ByteArray := prog_11_method_56_code
def yX9_beside : MethodName := ⟨RX9, "beside", "([IIZ)V"⟩
abbrev cX9_isHead : ByteArray := prog_11_method_57_code
def yX9_isHead : MethodName := ⟨RX9, "isHead", "([II)Z"⟩
abbrev cX9_isHeadOf : ByteArray := prog_11_method_58_code
def yX9_isHeadOf : MethodName := ⟨RX9, "isHeadOf", "(II)Z"⟩
abbrev cX9_leads : ByteArray := prog_11_method_59_code
def yX9_leads : MethodName := ⟨RX9, "leads", "(II)I"⟩
abbrev cX9_number : ByteArray := prog_11_method_60_code
def yX9_number : MethodName := ⟨RX9, "number", "(I)J"⟩
abbrev cX9_sizeOf : ByteArray := prog_11_method_61_code
def yX9_sizeOf : MethodName := ⟨RX9, "sizeOf", "(I)I"⟩
abbrev cX9_reads : ByteArray := prog_11_method_62_code
def yX9_reads : MethodName := ⟨RX9, "reads", "()Z"⟩
abbrev cX9_readsLegs : ByteArray := prog_11_method_63_code
def yX9_readsLegs : MethodName := ⟨RX9, "readsLegs", "()Z"⟩
abbrev cX9_isTrial : ByteArray := prog_11_method_64_code
def yX9_isTrial : MethodName := ⟨RX9, "isTrial", "()Z"⟩
abbrev cX9_tells : ByteArray := prog_11_method_65_code
def yX9_tells : MethodName := ⟨RX9, "tells", "(I)I"⟩
abbrev cX9_audit : ByteArray := prog_11_method_66_code
def yX9_audit : MethodName := ⟨RX9, "audit", "()I"⟩
abbrev cX9_altered : ByteArray := prog_11_method_67_code
def yX9_altered : MethodName := ⟨RX9, "altered", "()I"⟩
abbrev cX9_there : ByteArray := prog_11_method_68_code
def yX9_there : MethodName := ⟨RX9, "there", "()I"⟩
abbrev cX9_count : ByteArray := prog_11_method_69_code
def yX9_count : MethodName := ⟨RX9, "count", "(I)I"⟩
def RJ9 : String := "java/lang/Math"
abbrev cJ9_max_7cf53 : ByteArray := prog_12_method_65_code
def yJ9_max_7cf53 : MethodName := ⟨RJ9, "max", "(II)I"⟩
abbrev cJ9_min_7cf53 : ByteArray := prog_12_method_69_code
def yJ9_min_7cf53 : MethodName := ⟨RJ9, "min", "(II)I"⟩
def RJ10 : String := "java/lang/System"
def RL : String := "ChainBooksLaw"
abbrev cL_law : ByteArray := code
def yL_law : MethodName := ⟨RL, "law", "([I)Z"⟩
abbrev vwCl : List vw_C := [(RX0, TX0, 2), (RX1, TX1, 2), (RX2, TX2, 3), (RX3, TX3, 18), (RX4, TX4, 3), (RX5, TX5, 8), (RX6, TX6, 4), (RX7, TX7, 15), (RX8, TX8, 8), (RX9, TX9, 67)]
def nS : Nat := 2
def lwN : List (String × Nat × MethodName × String) := [("ChainBooks", 11, ⟨"ChainBooks$Ledger", "<init>", "()V"⟩, "ChainBooks"), ("ChainBooks$Ledger", 49, ⟨"ChainBooks$Draft", "<init>", "()V"⟩, "ChainBooks"), ("ChainBooks$Ledger", 56, ⟨"ChainBooks$Legs", "<init>", "()V"⟩, "ChainBooks"), ("ChainBooks", 18, ⟨"ChainBooks$Legs", "<init>", "()V"⟩, "ChainBooks"), ("ChainBooks", 29, ⟨"ChainBooks$Pages", "<init>", "()V"⟩, "ChainBooks"), ("ChainBooks$Pages", 21, ⟨"ChainBooks$Sha", "<init>", "()V"⟩, "ChainBooks"), ("ChainBooks", 40, ⟨"ChainBooks$Head", "<init>", "()V"⟩, "ChainBooks"), ("ChainBooks", 43, ⟨"ChainBooks$Trail", "<init>", "()V"⟩, "ChainBooks"), ("ChainBooks$Trail", 29, ⟨"ChainBooks$Sha", "<init>", "()V"⟩, "ChainBooks"), ("ChainBooks", 50, ⟨"ChainBooks$Auditor", "<init>", "()V"⟩, "ChainBooks"), ("ChainBooks$Auditor", 11, ⟨"ChainBooks$Ledger", "<init>", "()V"⟩, "ChainBooks"), ("ChainBooks$Auditor", 20, ⟨"ChainBooks$Legs", "<init>", "()V"⟩, "ChainBooks"), ("ChainBooks$Legs", 23, ⟨"ChainBooks", "isByte", "(I)Z"⟩, "ChainBooks"), ("ChainBooks$Ledger", 128, ⟨"ChainBooks", "isBelow", "(JJ)Z"⟩, "ChainBooks"), ("ChainBooks$Ledger", 124, ⟨"ChainBooks", "isByte", "(I)Z"⟩, "ChainBooks"), ("ChainBooks$Ledger", 132, ⟨"ChainBooks", "canBeEntry", "(I)Z"⟩, "ChainBooks"), ("ChainBooks$Sha", 30, ⟨"ChainBooks", "byteOf", "([II)I"⟩, "ChainBooks"), ("ChainBooks$Sha", 47, ⟨"ChainBooks", "copyHash", "([I[I)V"⟩, "ChainBooks"), ("ChainBooks$Pages", 93, ⟨"ChainBooks", "copyHash", "([I[I)V"⟩, "ChainBooks"), ("ChainBooks$Trail", 101, ⟨"ChainBooks", "copyHash", "([I[I)V"⟩, "ChainBooks"), ("ChainBooks$Trail", 89, ⟨"ChainBooks", "sameHash", "([I[I)Z"⟩, "ChainBooks")]
theorem lwN_in : ∀ q ∈ lwN, Cond.methodLinkNest q.1 q.2.1 q.2.2.1 q.2.2.2 ∈ lw_tbl := by
  intro q hq
  obtain ⟨k, hk⟩ := List.getElem?_of_mem hq
  match k, hk with
  | 0, hk => cases hk; exact tn1 (List.mem_of_getElem? (i := 23) rfl)
  | 1, hk => cases hk; exact tn1 (List.mem_of_getElem? (i := 29) rfl)
  | 2, hk => cases hk; exact tn1 (List.mem_of_getElem? (i := 47) rfl)
  | 3, hk => cases hk; exact tn1 (List.mem_of_getElem? (i := 143) rfl)
  | 4, hk => cases hk; exact tn1 (List.mem_of_getElem? (i := 146) rfl)
  | 5, hk => cases hk; exact tn1 (List.mem_of_getElem? (i := 152) rfl)
  | 6, hk => cases hk; exact tn1 (List.mem_of_getElem? (i := 203) rfl)
  | 7, hk => cases hk; exact tn1 (List.mem_of_getElem? (i := 223) rfl)
  | 8, hk => cases hk; exact tn1 (List.mem_of_getElem? (i := 229) rfl)
  | 9, hk => cases hk; exact tn2 (List.mem_of_getElem? (i := 44) rfl)
  | 10, hk => cases hk; exact tn2 (List.mem_of_getElem? (i := 49) rfl)
  | 11, hk => cases hk; exact tn2 (List.mem_of_getElem? (i := 51) rfl)
  | 12, hk => cases hk; exact tn2 (List.mem_of_getElem? (i := 129) rfl)
  | 13, hk => cases hk; exact tn2 (List.mem_of_getElem? (i := 171) rfl)
  | 14, hk => cases hk; exact tn2 (List.mem_of_getElem? (i := 191) rfl)
  | 15, hk => cases hk; exact tn2 (List.mem_of_getElem? (i := 200) rfl)
  | 16, hk => cases hk; exact tn3 (List.mem_of_getElem? (i := 57) rfl)
  | 17, hk => cases hk; exact tn3 (List.mem_of_getElem? (i := 74) rfl)
  | 18, hk => cases hk; exact tn3 (List.mem_of_getElem? (i := 111) rfl)
  | 19, hk => cases hk; exact tn3 (List.mem_of_getElem? (i := 176) rfl)
  | 20, hk => cases hk; exact tn3 (List.mem_of_getElem? (i := 178) rfl)
  | k + 21, hk => cases hk
def cfT : Nat → List FieldType := fun ci => match ci with
  | 0 => [.object "ChainBooks$Ledger", .object "ChainBooks$Legs"]
  | 1 => [.array .byte, .int]
  | 2 => [.array .int, .array .int, .int]
  | 3 => [.array .long, .array .long, .array .long, .array .long, .int, .array .byte, .array .int, .array .long, .array .int, .array .int, .array .int, .array .long, .int, .object "ChainBooks$Draft", .object "ChainBooks$Legs", .int, .int, .int]
  | 4 => [.array .int, .array .long, .int]
  | 5 => [.array .byte, .array .int, .int, .object "ChainBooks$Sha", .array (.array .int), .int, .array (.array .int), .array .boolean]
  | 6 => [.array .byte, .int, .array .int, .array .int]
  | 7 => [.array (.array .int), .int, .boolean, .boolean, .int, .int, .array .boolean, .array .int, .array .int, .int, .int, .int, .object "ChainBooks$Sha", .array .int, .array .int]
  | 8 => [.object "ChainBooks$Ledger", .object "ChainBooks$Legs", .array .int, .object "ChainBooks$Pages", .array (.object "ChainBooks$Head"), .object "ChainBooks$Trail", .object "ChainBooks$Auditor", .array .int]
  | 9 => [.array .int, .array .int, .array .int, .array .int, .array .boolean, .array .long, .array .long, .array .long, .array .long, .array .int, .array .long, .array .int, .array .int, .array .long, .array .int, .array .long, .array .boolean, .array .int, .array .int, .array .int, .int, .array .int, .array .int, .array .int, .array .int, .int, .int, .int, .int, .int, .long, .long, .array .int, .array .long, .array .int, .int, .array .long, .int, .array .int, .array .long, .array .int, .array .int, .int, .array .int, .array .int, .array .int, .array .int, .array .int, .array .int, .array .boolean, .array .int, .array .int, .int, .int, .int, .int, .array .int, .array .boolean, .array .int, .array .int, .int, .int, .int, .boolean, .array .int, .array .int, .int]
  | _ => []
def aTys : List FieldType := [.int, .byte, .boolean, .long, .array .int, .object "ChainBooks$Head"]
def sTab : List (String × String × String) := [("ChainBooks$Sha", "FIRST", "[I"), ("ChainBooks$Sha", "ROUND", "[I")]
theorem inX0 : ∀ w ∈ wsX00, w ∈ lwT := by
  intro w hw
  obtain ⟨k, hk, rfl⟩ := List.mem_map.mp hw
  have hk := List.mem_range.mp hk
  match k, hk with
  | 0, _ => exact tb2 (List.mem_of_getElem? (i := 54) rfl) rfl
  | 1, _ => exact tb2 (List.mem_of_getElem? (i := 56) rfl) rfl
  | k + 2, h => exact absurd h (by omega)
theorem cfX0 : ∀ k, k < 2 → (cfT 0)[k]? = some (tyX0 k) := by decide +kernel
theorem inX1 : ∀ w ∈ wsX10, w ∈ lwT := by
  intro w hw
  obtain ⟨k, hk, rfl⟩ := List.mem_map.mp hw
  have hk := List.mem_range.mp hk
  match k, hk with
  | 0, _ => exact tb1 (List.mem_of_getElem? (i := 37) rfl) rfl
  | 1, _ => exact tb1 (List.mem_of_getElem? (i := 39) rfl) rfl
  | k + 2, h => exact absurd h (by omega)
theorem cfX1 : ∀ k, k < 2 → (cfT 1)[k]? = some (tyX1 k) := by decide +kernel
theorem inX2 : ∀ w ∈ wsX20, w ∈ lwT := by
  intro w hw
  obtain ⟨k, hk, rfl⟩ := List.mem_map.mp hw
  have hk := List.mem_range.mp hk
  match k, hk with
  | 0, _ => exact tb1 (List.mem_of_getElem? (i := 214) rfl) rfl
  | 1, _ => exact tb1 (List.mem_of_getElem? (i := 216) rfl) rfl
  | 2, _ => exact tb1 (List.mem_of_getElem? (i := 218) rfl) rfl
  | k + 3, h => exact absurd h (by omega)
theorem cfX2 : ∀ k, k < 3 → (cfT 2)[k]? = some (tyX2 k) := by decide +kernel
theorem inX3 : ∀ w ∈ wsX30, w ∈ lwT := by
  intro w hw
  obtain ⟨k, hk, rfl⟩ := List.mem_map.mp hw
  have hk := List.mem_range.mp hk
  match k, hk with
  | 0, _ => exact tb1 (List.mem_of_getElem? (i := 105) rfl) rfl
  | 1, _ => exact tb1 (List.mem_of_getElem? (i := 107) rfl) rfl
  | 2, _ => exact tb1 (List.mem_of_getElem? (i := 109) rfl) rfl
  | 3, _ => exact tb1 (List.mem_of_getElem? (i := 111) rfl) rfl
  | 4, _ => exact tb1 (List.mem_of_getElem? (i := 113) rfl) rfl
  | 5, _ => exact tb1 (List.mem_of_getElem? (i := 115) rfl) rfl
  | 6, _ => exact tb1 (List.mem_of_getElem? (i := 117) rfl) rfl
  | 7, _ => exact tb1 (List.mem_of_getElem? (i := 119) rfl) rfl
  | 8, _ => exact tb1 (List.mem_of_getElem? (i := 121) rfl) rfl
  | 9, _ => exact tb1 (List.mem_of_getElem? (i := 123) rfl) rfl
  | 10, _ => exact tb1 (List.mem_of_getElem? (i := 125) rfl) rfl
  | 11, _ => exact tb1 (List.mem_of_getElem? (i := 127) rfl) rfl
  | 12, _ => exact tb1 (List.mem_of_getElem? (i := 129) rfl) rfl
  | 13, _ => exact tb1 (List.mem_of_getElem? (i := 131) rfl) rfl
  | 14, _ => exact tb1 (List.mem_of_getElem? (i := 133) rfl) rfl
  | 15, _ => exact tb1 (List.mem_of_getElem? (i := 135) rfl) rfl
  | 16, _ => exact tb1 (List.mem_of_getElem? (i := 137) rfl) rfl
  | 17, _ => exact tb1 (List.mem_of_getElem? (i := 139) rfl) rfl
  | k + 18, h => exact absurd h (by omega)
theorem cfX3 : ∀ k, k < 18 → (cfT 3)[k]? = some (tyX3 k) := by decide +kernel
theorem inX4 : ∀ w ∈ wsX40, w ∈ lwT := by
  intro w hw
  obtain ⟨k, hk, rfl⟩ := List.mem_map.mp hw
  have hk := List.mem_range.mp hk
  match k, hk with
  | 0, _ => exact tb1 (List.mem_of_getElem? (i := 59) rfl) rfl
  | 1, _ => exact tb1 (List.mem_of_getElem? (i := 61) rfl) rfl
  | 2, _ => exact tb1 (List.mem_of_getElem? (i := 63) rfl) rfl
  | k + 3, h => exact absurd h (by omega)
theorem cfX4 : ∀ k, k < 3 → (cfT 4)[k]? = some (tyX4 k) := by decide +kernel
theorem inX5 : ∀ w ∈ wsX50, w ∈ lwT := by
  intro w hw
  obtain ⟨k, hk, rfl⟩ := List.mem_map.mp hw
  have hk := List.mem_range.mp hk
  match k, hk with
  | 0, _ => exact tb1 (List.mem_of_getElem? (i := 182) rfl) rfl
  | 1, _ => exact tb1 (List.mem_of_getElem? (i := 184) rfl) rfl
  | 2, _ => exact tb1 (List.mem_of_getElem? (i := 186) rfl) rfl
  | 3, _ => exact tb1 (List.mem_of_getElem? (i := 188) rfl) rfl
  | 4, _ => exact tb1 (List.mem_of_getElem? (i := 190) rfl) rfl
  | 5, _ => exact tb1 (List.mem_of_getElem? (i := 192) rfl) rfl
  | 6, _ => exact tb1 (List.mem_of_getElem? (i := 194) rfl) rfl
  | 7, _ => exact tb1 (List.mem_of_getElem? (i := 196) rfl) rfl
  | k + 8, h => exact absurd h (by omega)
theorem cfX5 : ∀ k, k < 8 → (cfT 5)[k]? = some (tyX5 k) := by decide +kernel
theorem inX6 : ∀ w ∈ wsX60, w ∈ lwT := by
  intro w hw
  obtain ⟨k, hk, rfl⟩ := List.mem_map.mp hw
  have hk := List.mem_range.mp hk
  match k, hk with
  | 0, _ => exact tb1 (List.mem_of_getElem? (i := 160) rfl) rfl
  | 1, _ => exact tb1 (List.mem_of_getElem? (i := 162) rfl) rfl
  | 2, _ => exact tb1 (List.mem_of_getElem? (i := 164) rfl) rfl
  | 3, _ => exact tb1 (List.mem_of_getElem? (i := 166) rfl) rfl
  | k + 4, h => exact absurd h (by omega)
theorem cfX6 : ∀ k, k < 4 → (cfT 6)[k]? = some (tyX6 k) := by decide +kernel
theorem inX7 : ∀ w ∈ wsX70, w ∈ lwT := by
  intro w hw
  obtain ⟨k, hk, rfl⟩ := List.mem_map.mp hw
  have hk := List.mem_range.mp hk
  match k, hk with
  | 0, _ => exact tb2 (List.mem_of_getElem? (i := 11) rfl) rfl
  | 1, _ => exact tb2 (List.mem_of_getElem? (i := 13) rfl) rfl
  | 2, _ => exact tb2 (List.mem_of_getElem? (i := 15) rfl) rfl
  | 3, _ => exact tb2 (List.mem_of_getElem? (i := 17) rfl) rfl
  | 4, _ => exact tb2 (List.mem_of_getElem? (i := 19) rfl) rfl
  | 5, _ => exact tb2 (List.mem_of_getElem? (i := 21) rfl) rfl
  | 6, _ => exact tb2 (List.mem_of_getElem? (i := 23) rfl) rfl
  | 7, _ => exact tb2 (List.mem_of_getElem? (i := 25) rfl) rfl
  | 8, _ => exact tb2 (List.mem_of_getElem? (i := 27) rfl) rfl
  | 9, _ => exact tb2 (List.mem_of_getElem? (i := 29) rfl) rfl
  | 10, _ => exact tb2 (List.mem_of_getElem? (i := 31) rfl) rfl
  | 11, _ => exact tb2 (List.mem_of_getElem? (i := 33) rfl) rfl
  | 12, _ => exact tb2 (List.mem_of_getElem? (i := 35) rfl) rfl
  | 13, _ => exact tb2 (List.mem_of_getElem? (i := 37) rfl) rfl
  | 14, _ => exact tb2 (List.mem_of_getElem? (i := 39) rfl) rfl
  | k + 15, h => exact absurd h (by omega)
theorem cfX7 : ∀ k, k < 15 → (cfT 7)[k]? = some (tyX7 k) := by decide +kernel
theorem inX8 : ∀ w ∈ wsX80, w ∈ lwT := by
  intro w hw
  obtain ⟨k, hk, rfl⟩ := List.mem_map.mp hw
  have hk := List.mem_range.mp hk
  match k, hk with
  | 0, _ => exact tb2 (List.mem_of_getElem? (i := 67) rfl) rfl
  | 1, _ => exact tb2 (List.mem_of_getElem? (i := 69) rfl) rfl
  | 2, _ => exact tb2 (List.mem_of_getElem? (i := 71) rfl) rfl
  | 3, _ => exact tb2 (List.mem_of_getElem? (i := 73) rfl) rfl
  | 4, _ => exact tb2 (List.mem_of_getElem? (i := 75) rfl) rfl
  | 5, _ => exact tb2 (List.mem_of_getElem? (i := 77) rfl) rfl
  | 6, _ => exact tb2 (List.mem_of_getElem? (i := 79) rfl) rfl
  | 7, _ => exact tb2 (List.mem_of_getElem? (i := 81) rfl) rfl
  | k + 8, h => exact absurd h (by omega)
theorem cfX8 : ∀ k, k < 8 → (cfT 8)[k]? = some (tyX8 k) := by decide +kernel
theorem inX9 : ∀ w ∈ wsX90, w ∈ lwT := by
  intro w hw
  obtain ⟨k, hk, rfl⟩ := List.mem_map.mp hw
  have hk := List.mem_range.mp hk
  match k, hk with
  | 0, _ => exact tb4 (List.mem_of_getElem? (i := 130) rfl) rfl
  | 1, _ => exact tb4 (List.mem_of_getElem? (i := 132) rfl) rfl
  | 2, _ => exact tb4 (List.mem_of_getElem? (i := 134) rfl) rfl
  | 3, _ => exact tb4 (List.mem_of_getElem? (i := 136) rfl) rfl
  | 4, _ => exact tb4 (List.mem_of_getElem? (i := 138) rfl) rfl
  | 5, _ => exact tb4 (List.mem_of_getElem? (i := 140) rfl) rfl
  | 6, _ => exact tb4 (List.mem_of_getElem? (i := 142) rfl) rfl
  | 7, _ => exact tb4 (List.mem_of_getElem? (i := 144) rfl) rfl
  | 8, _ => exact tb4 (List.mem_of_getElem? (i := 146) rfl) rfl
  | 9, _ => exact tb4 (List.mem_of_getElem? (i := 148) rfl) rfl
  | 10, _ => exact tb4 (List.mem_of_getElem? (i := 150) rfl) rfl
  | 11, _ => exact tb4 (List.mem_of_getElem? (i := 152) rfl) rfl
  | 12, _ => exact tb4 (List.mem_of_getElem? (i := 154) rfl) rfl
  | 13, _ => exact tb4 (List.mem_of_getElem? (i := 156) rfl) rfl
  | 14, _ => exact tb4 (List.mem_of_getElem? (i := 158) rfl) rfl
  | 15, _ => exact tb4 (List.mem_of_getElem? (i := 160) rfl) rfl
  | 16, _ => exact tb4 (List.mem_of_getElem? (i := 162) rfl) rfl
  | 17, _ => exact tb4 (List.mem_of_getElem? (i := 164) rfl) rfl
  | 18, _ => exact tb4 (List.mem_of_getElem? (i := 166) rfl) rfl
  | 19, _ => exact tb4 (List.mem_of_getElem? (i := 168) rfl) rfl
  | 20, _ => exact tb4 (List.mem_of_getElem? (i := 170) rfl) rfl
  | 21, _ => exact tb4 (List.mem_of_getElem? (i := 172) rfl) rfl
  | 22, _ => exact tb4 (List.mem_of_getElem? (i := 174) rfl) rfl
  | 23, _ => exact tb4 (List.mem_of_getElem? (i := 176) rfl) rfl
  | 24, _ => exact tb4 (List.mem_of_getElem? (i := 178) rfl) rfl
  | 25, _ => exact tb4 (List.mem_of_getElem? (i := 180) rfl) rfl
  | 26, _ => exact tb4 (List.mem_of_getElem? (i := 182) rfl) rfl
  | 27, _ => exact tb4 (List.mem_of_getElem? (i := 184) rfl) rfl
  | 28, _ => exact tb4 (List.mem_of_getElem? (i := 186) rfl) rfl
  | 29, _ => exact tb4 (List.mem_of_getElem? (i := 188) rfl) rfl
  | 30, _ => exact tb4 (List.mem_of_getElem? (i := 190) rfl) rfl
  | 31, _ => exact tb4 (List.mem_of_getElem? (i := 192) rfl) rfl
  | 32, _ => exact tb4 (List.mem_of_getElem? (i := 194) rfl) rfl
  | 33, _ => exact tb4 (List.mem_of_getElem? (i := 196) rfl) rfl
  | 34, _ => exact tb4 (List.mem_of_getElem? (i := 198) rfl) rfl
  | 35, _ => exact tb4 (List.mem_of_getElem? (i := 200) rfl) rfl
  | 36, _ => exact tb4 (List.mem_of_getElem? (i := 202) rfl) rfl
  | 37, _ => exact tb4 (List.mem_of_getElem? (i := 204) rfl) rfl
  | 38, _ => exact tb4 (List.mem_of_getElem? (i := 206) rfl) rfl
  | 39, _ => exact tb4 (List.mem_of_getElem? (i := 208) rfl) rfl
  | 40, _ => exact tb4 (List.mem_of_getElem? (i := 210) rfl) rfl
  | 41, _ => exact tb4 (List.mem_of_getElem? (i := 212) rfl) rfl
  | 42, _ => exact tb4 (List.mem_of_getElem? (i := 214) rfl) rfl
  | 43, _ => exact tb4 (List.mem_of_getElem? (i := 216) rfl) rfl
  | 44, _ => exact tb4 (List.mem_of_getElem? (i := 218) rfl) rfl
  | 45, _ => exact tb4 (List.mem_of_getElem? (i := 220) rfl) rfl
  | 46, _ => exact tb4 (List.mem_of_getElem? (i := 222) rfl) rfl
  | 47, _ => exact tb4 (List.mem_of_getElem? (i := 224) rfl) rfl
  | 48, _ => exact tb4 (List.mem_of_getElem? (i := 226) rfl) rfl
  | 49, _ => exact tb4 (List.mem_of_getElem? (i := 228) rfl) rfl
  | 50, _ => exact tb4 (List.mem_of_getElem? (i := 230) rfl) rfl
  | 51, _ => exact tb4 (List.mem_of_getElem? (i := 232) rfl) rfl
  | 52, _ => exact tb4 (List.mem_of_getElem? (i := 234) rfl) rfl
  | 53, _ => exact tb4 (List.mem_of_getElem? (i := 236) rfl) rfl
  | 54, _ => exact tb4 (List.mem_of_getElem? (i := 238) rfl) rfl
  | 55, _ => exact tb5 (List.mem_of_getElem? (i := 0) rfl) rfl
  | 56, _ => exact tb5 (List.mem_of_getElem? (i := 2) rfl) rfl
  | 57, _ => exact tb5 (List.mem_of_getElem? (i := 4) rfl) rfl
  | 58, _ => exact tb5 (List.mem_of_getElem? (i := 6) rfl) rfl
  | 59, _ => exact tb5 (List.mem_of_getElem? (i := 8) rfl) rfl
  | 60, _ => exact tb5 (List.mem_of_getElem? (i := 10) rfl) rfl
  | 61, _ => exact tb5 (List.mem_of_getElem? (i := 12) rfl) rfl
  | 62, _ => exact tb5 (List.mem_of_getElem? (i := 14) rfl) rfl
  | 63, _ => exact tb5 (List.mem_of_getElem? (i := 16) rfl) rfl
  | 64, _ => exact tb5 (List.mem_of_getElem? (i := 18) rfl) rfl
  | 65, _ => exact tb5 (List.mem_of_getElem? (i := 20) rfl) rfl
  | 66, _ => exact tb5 (List.mem_of_getElem? (i := 22) rfl) rfl
  | k + 67, h => exact absurd h (by omega)
theorem cfX9 : ∀ k, k < 67 → (cfT 9)[k]? = some (tyX9 k) := by decide +kernel
end
section
-- THE MEMORY: cells by number; cells below nS are the static rows of ints; shapes, references, ints, longs
abbrev Shp : Type := (FieldType × Nat) ⊕ Nat
abbrev Mem : Type := Nat × Nat × (Nat → Shp) × (Nat → Nat → Option Nat) × (Nat → Nat → Int32) × (Nat → Nat → Int64)
abbrev Gx : Type := va_G × (FieldType → ClassId) × Nat × (Nat → Nat)
abbrev Cx : Type := Program × Launch × Env × Room × State × MethodId × Array Value × List Frame × Method × Code
abbrev mSh (M : Mem) : Nat → Shp := M.2.2.1
abbrev mR (M : Mem) : Nat → Nat → Option Nat := M.2.2.2.1
abbrev mI (M : Mem) : Nat → Nat → Int32 := M.2.2.2.2.1
abbrev mJ (M : Mem) : Nat → Nat → Int64 := M.2.2.2.2.2
def u2 {α : Type} (f : Nat → Nat → α) (c i : Nat) (x : α) : Nat → Nat → α := fun c' i' => if c' = c ∧ i' = i then x else f c' i'
def stI (M : Mem) (c i : Nat) (x : Int32) : Mem := (M.1, M.2.1, mSh M, mR M, u2 (mI M) c i x, mJ M)
def stJ (M : Mem) (c i : Nat) (x : Int64) : Mem := (M.1, M.2.1, mSh M, mR M, mI M, u2 (mJ M) c i x)
def stR (M : Mem) (c i : Nat) (x : Option Nat) : Mem := (M.1, M.2.1, mSh M, u2 (mR M) c i x, mI M, mJ M)
def adr (G : Gx) (c : Nat) : Nat := if c < nS then G.2.2.2 c else G.2.2.1 + (c - nS)
def rA (G : Gx) : Nat → Prop := fun q => G.2.2.1 ≤ q
def fval (G : Gx) (M : Mem) (c f : Nat) (ty : FieldType) : Value := match ty with
  | .long => .long (mJ M c f)
  | .array _ => va_rf ((mR M c f).map (adr G))
  | .object _ => va_rf ((mR M c f).map (adr G))
  | _ => .int (mI M c f)
def fvals (G : Gx) (M : Mem) (c : Nat) : Nat → List FieldType → List Value
  | _, [] => []
  | f, ty :: r => fval G M c f ty :: fvals G M c (f + 1) r
def rowOf (G : Gx) (M : Mem) (c : Nat) (ty : FieldType) : (Nat → Int32) ⊕ (Nat → Int64) ⊕ (Nat → UInt32) ⊕ (Nat → UInt64) ⊕ (Nat → Option Nat) := match ty with
  | .long => .inr (.inl (mJ M c))
  | .array _ => .inr (.inr (.inr (.inr (fun i => (mR M c i).map (adr G)))))
  | .object _ => .inr (.inr (.inr (.inr (fun i => (mR M c i).map (adr G)))))
  | _ => .inl (mI M c)
def cont (G : Gx) (M : Mem) (c : Nat) : va_E := match mSh M c with
  | .inl (ty, n) => .inl (G.2.1 ty, n, rowOf G M c ty)
  | .inr ci => .inr (ci, fvals G M c 0 (cfT ci))
def Hold (G : Gx) (M : Mem) (H : Heap) : Prop := nS ≤ M.1 ∧ H.size = G.2.2.1 + (M.1 - nS) ∧ ∀ c, c < M.1 → va_at G.1 vwCl (adr G c, cont G M c) H
def tysG (G : Gx) : List (ClassId × FieldType) := aTys.map (fun t => (G.2.1 t, t))
def AOA (U : State) : Prop := ∃ (c comp : ClassId) (k : Class), U.vm.findClass "[[I" = some c ∧ U.vm.classes[c]? = some k ∧ k.kind = .array comp (.array .int) ∧ U.vm.findClass "[I" = some comp
/-- the tables, and the statics' own cells: what a state knows, and keeps -/
def Kn (G : Gx) (U : State) : Prop := va_K G.1 vwCl (tysG G) U ∧ (∀ c, c < nS → G.2.2.2 c < G.2.2.1) ∧ G.2.2.1 ≤ U.heap.size ∧ (∀ j C n d, sTab[j]? = some (C, n, d) → va_Z C n d (.ref (G.2.2.2 j)) (rA G) U U.heap) ∧ (∀ q ∈ lwN, va_Nw (.methodLinkNest q.1 q.2.1 q.2.2.1 q.2.2.2) U) ∧ va_AO "ChainBooks$Head" U ∧ AOA U
abbrev xp (x : Cx) := x.1
abbrev xl (x : Cx) := x.2.1
abbrev xe (x : Cx) := x.2.2.1
abbrev xR (x : Cx) := x.2.2.2.1
abbrev xs (x : Cx) := x.2.2.2.2.1
abbrev xm (x : Cx) := x.2.2.2.2.2.1
abbrev xa (x : Cx) := x.2.2.2.2.2.2.1
abbrev xb (x : Cx) := x.2.2.2.2.2.2.2.1
abbrev xt (x : Cx) := x.2.2.2.2.2.2.2.2.1
abbrev xc (x : Cx) := x.2.2.2.2.2.2.2.2.2
abbrev WW (x : Cx) (H : Heap) (locs : List Loc) (cells slots : Nat) (Q : State → Prop) (g : JFrame) : Prop := W (xp x) (xl x) (xe x) (xR x) (xs x) (xm x) (xa x) (xb x) (xt x) (xc x) H locs cells slots Q g
/-- an activation: the machine's exec, the method's bytes, its locals, its class, the words, its name and what it returns -/
def Act (G : Gx) (x : Cx) (cc : ByteArray) (nL : Nat) (own : String) (ret : Option FieldType) (nm : String) : Prop :=
  (xp x).tables.exec = Jvm.exec ∧ (xc x).code = cc ∧ (xc x).maxLocals = nL ∧ (xs x).vm.findClass own = some (xm x).cls ∧ (∀ w ∈ lwT, w.before (xa x) (xs x) = true) ∧ (xt x).locks = false ∧ (xt x).sig.returnType = ret ∧ (xt x).name = nm ∧ Kn G (xs x)
/-- from pc with these locals, stack and memory the machine goes on to what k tells -/
def J (G : Gx) (l : Launch) (cc : ByteArray) (nL : Nat) (own : String) (ret : Option FieldType) (nm : String) (fr lc : Nat) {α : Type} (Q : Cx → Mem → α → Mem → State → Prop) (pc : Nat) (lv : List (Nat × Value)) (st : List Value) (M : Mem) (k : Option (α × Mem)) : Prop :=
  ∀ r Me, k = some (r, Me) → (M.1 ≤ Me.1 ∧ M.2.1 ≤ Me.2.1) ∧ ∀ (x : Cx) (M0 : Mem), xl x = l → Act G x cc nL own ret nm → fr ≤ (xR x).frames → lc ≤ (xR x).locals → M0.1 ≤ M.1 → M0.2.1 ≤ M.2.1 → Me.1 - M0.1 ≤ (xR x).cells → Me.2.1 - M0.2.1 ≤ (xR x).slots →
    ∀ H locs ls, Hold G M H → va_S (rA G) (xs x).heap H locs → lv_has ls nL lv → WW x H locs (M.1 - M0.1) (M.2.1 - M0.2.1) (Q x M0 r Me) (F0 (xm x) pc ls st)
section CoreA
variable {G : Gx} {l : Launch} {cc : ByteArray} {nL : Nat} {own : String} {ret : Option FieldType} {nm : String} {fr lc : Nat} {α : Type} {Q : Cx → Mem → α → Mem → State → Prop} {M M' : Mem} {pc pc' : Nat} {lv lv' : List (Nat × Value)} {st st' : List Value} {k k1 k2 : Option (α × Mem)}
theorem J_step (h : ∀ (x : Cx) (A : Act G x cc nL own ret nm) (H : Heap) (locs : List Loc) (ls : Array Slot) (cells slots : Nat) (Q' : State → Prop), lv_has ls nL lv → WW x H locs cells slots Q' (F0 (xm x) pc' ls st') → WW x H locs cells slots Q' (F0 (xm x) pc ls st))
    (k1 : J G l cc nL own ret nm fr lc Q pc' lv st' M k) : J G l cc nL own ret nm fr lc Q pc lv st M k := fun r Me e =>
  ⟨(k1 r Me e).1, fun x M0 e1 A f1 f2 a b c d H locs ls hH hS hl => h x A H locs ls _ _ _ hl ((k1 r Me e).2 x M0 e1 A f1 f2 a b c d H locs ls hH hS hl)⟩
theorem J_stepL (h : ∀ (x : Cx) (A : Act G x cc nL own ret nm) (H : Heap) (locs : List Loc) (ls : Array Slot) (cells slots : Nat) (Q' : State → Prop), lv_has ls nL lv → (∀ ls' : Array Slot, lv_has ls' nL lv' → WW x H locs cells slots Q' (F0 (xm x) pc' ls' st')) → WW x H locs cells slots Q' (F0 (xm x) pc ls st))
    (k1 : J G l cc nL own ret nm fr lc Q pc' lv' st' M k) : J G l cc nL own ret nm fr lc Q pc lv st M k := fun r Me e =>
  ⟨(k1 r Me e).1, fun x M0 e1 A f1 f2 a b c d H locs ls hH hS hl => h x A H locs ls _ _ _ hl (fun ls' hl' => (k1 r Me e).2 x M0 e1 A f1 f2 a b c d H locs ls' hH hS hl')⟩
theorem J_stepH (h : ∀ (x : Cx) (A : Act G x cc nL own ret nm) (H : Heap) (locs : List Loc) (ls : Array Slot) (cells slots : Nat) (Q' : State → Prop), Hold G M H → va_S (rA G) (xs x).heap H locs → lv_has ls nL lv → WW x H locs cells slots Q' (F0 (xm x) pc' ls st') → WW x H locs cells slots Q' (F0 (xm x) pc ls st))
    (k1 : J G l cc nL own ret nm fr lc Q pc' lv st' M k) : J G l cc nL own ret nm fr lc Q pc lv st M k := fun r Me e =>
  ⟨(k1 r Me e).1, fun x M0 e1 A f1 f2 a b c d H locs ls hH hS hl => h x A H locs ls _ _ _ hH hS hl ((k1 r Me e).2 x M0 e1 A f1 f2 a b c d H locs ls hH hS hl)⟩
theorem J_stepS (e1 : M'.1 = M.1) (e2 : M'.2.1 = M.2.1) (h : ∀ (x : Cx) (A : Act G x cc nL own ret nm) (H : Heap) (locs : List Loc) (ls : Array Slot) (cells slots : Nat) (Q' : State → Prop), Hold G M H → va_S (rA G) (xs x).heap H locs → lv_has ls nL lv → (∀ (H1 : Heap) (locs1 : List Loc), Hold G M' H1 → va_S (rA G) (xs x).heap H1 locs1 → WW x H1 locs1 cells slots Q' (F0 (xm x) pc' ls st')) → WW x H locs cells slots Q' (F0 (xm x) pc ls st))
    (k1 : J G l cc nL own ret nm fr lc Q pc' lv st' M' k) : J G l cc nL own ret nm fr lc Q pc lv st M k := by
  intro r Me e
  have q := k1 r Me e
  rw [e1, e2] at q
  exact ⟨q.1, fun x M0 e1 A f1 f2 a b c d H locs ls hH hS hl => h x A H locs ls _ _ _ hH hS hl (fun H1 locs1 hH1 hS1 => q.2 x M0 e1 A f1 f2 a b c d H1 locs1 ls hH1 hS1 hl)⟩
theorem J_none : J G l cc nL own ret nm fr lc Q pc lv st M none := fun r Me e => by cases e
theorem J_ite {c : Prop} [Decidable c] (h1 : c → J G l cc nL own ret nm fr lc Q pc lv st M k1) (h2 : ¬ c → J G l cc nL own ret nm fr lc Q pc lv st M k2) : J G l cc nL own ret nm fr lc Q pc lv st M (if c then k1 else k2) := by
  by_cases hc : c
  · rw [if_pos hc]; exact h1 hc
  · rw [if_neg hc]; exact h2 hc
theorem J_sub (ks : List Nat) (hl : lv_pick lv ks = lv') (k1 : J G l cc nL own ret nm fr lc Q pc lv' st M k) : J G l cc nL own ret nm fr lc Q pc lv st M k := fun r Me e =>
  ⟨(k1 r Me e).1, fun x M0 e1 A f1 f2 a b c d H locs ls hH hS h => (k1 r Me e).2 x M0 e1 A f1 f2 a b c d H locs ls hH hS (lv_sub h ks hl)⟩
-- constants, locals, stack, arithmetic
theorem J_iconst {n : Int} {v : Int32} (hdg : decode cc pc = .ok (.iconst n, 1)) (hv : Int32.ofInt n = v) (k1 : J G l cc nL own ret nm fr lc Q (pc + 1) lv (.int v :: st) M k) : J G l cc nL own ret nm fr lc Q pc lv st M k := J_step (fun x A _ _ _ _ _ _ _ w => lv_iconst A.1 A.2.1 hdg hv w) k1
theorem J_bipush {n : Int} {v : Int32} (hdg : decode cc pc = .ok (.bipush n, 2)) (hv : (Int8.ofInt n).toInt32 = v) (k1 : J G l cc nL own ret nm fr lc Q (pc + 2) lv (.int v :: st) M k) : J G l cc nL own ret nm fr lc Q pc lv st M k := J_step (fun x A _ _ _ _ _ _ _ w => lv_bipush A.1 A.2.1 hdg hv w) k1
theorem J_sipush {n : Int} {v : Int32} (hdg : decode cc pc = .ok (.sipush n, 3)) (hv : (Int16.ofInt n).toInt32 = v) (k1 : J G l cc nL own ret nm fr lc Q (pc + 3) lv (.int v :: st) M k) : J G l cc nL own ret nm fr lc Q pc lv st M k := J_step (fun x A _ _ _ _ _ _ _ w => lv_sipush A.1 A.2.1 hdg hv w) k1
theorem J_lconst {n : Fin 2} {v : Int64} (hdg : decode cc pc = .ok (.lconst n, 1)) (hv : Int64.ofNat (n : Nat) = v) (k1 : J G l cc nL own ret nm fr lc Q (pc + 1) lv (.long v :: st) M k) : J G l cc nL own ret nm fr lc Q pc lv st M k := J_step (fun x A _ _ _ _ _ _ _ w => lv_lconst A.1 A.2.1 hdg hv w) k1
theorem J_ldc {i : Nat} {v : Int32} (hdg : decode cc pc = .ok (.ldc i, 2)) (hw : Cond.constant own i v ∈ lwT) (k1 : J G l cc nL own ret nm fr lc Q (pc + 2) lv (.int v :: st) M k) : J G l cc nL own ret nm fr lc Q pc lv st M k := J_step (fun x A _ _ _ _ _ _ _ w => lv_ldc A.1 A.2.1 A.2.2.2.1 (A.2.2.2.2.1 _ hw) hdg w) k1
theorem J_ldcw {i : Nat} {v : Int32} (hdg : decode cc pc = .ok (.ldc_w i, 3)) (hw : Cond.constant own i v ∈ lwT) (k1 : J G l cc nL own ret nm fr lc Q (pc + 3) lv (.int v :: st) M k) : J G l cc nL own ret nm fr lc Q pc lv st M k := J_step (fun x A _ _ _ _ _ _ _ w => lv_ldcw A.1 A.2.1 A.2.2.2.1 (A.2.2.2.2.1 _ hw) hdg w) k1
theorem J_ldc2 {i : Nat} {v : Int64} (hdg : decode cc pc = .ok (.ldc2_w i, 3)) (hw : Cond.constantLong own i v ∈ lwT) (k1 : J G l cc nL own ret nm fr lc Q (pc + 3) lv (.long v :: st) M k) : J G l cc nL own ret nm fr lc Q pc lv st M k := J_step (fun x A _ _ _ _ _ _ _ w => lv_ldc2 A.1 A.2.1 A.2.2.2.1 (A.2.2.2.2.1 _ hw) hdg w) k1
theorem J_iload_n {i : Fin 4} {v : Int32} (hdg : decode cc pc = .ok (.iload_n i, 1)) (q : Nat) (hq : lv[q]? = some ((i : Nat), .int v)) (k1 : J G l cc nL own ret nm fr lc Q (pc + 1) lv (.int v :: st) M k) : J G l cc nL own ret nm fr lc Q pc lv st M k := J_step (fun x A _ _ _ _ _ _ hl w => lv_iload_n A.1 A.2.1 hdg rfl (lv_at hl q hq) w) k1
theorem J_iload {i : Nat} {v : Int32} (hdg : decode cc pc = .ok (.iload i, 2)) (q : Nat) (hq : lv[q]? = some (i, .int v)) (k1 : J G l cc nL own ret nm fr lc Q (pc + 2) lv (.int v :: st) M k) : J G l cc nL own ret nm fr lc Q pc lv st M k := J_step (fun x A _ _ _ _ _ _ hl w => lv_iload A.1 A.2.1 hdg (lv_at hl q hq) w) k1
theorem J_lload_n {i : Fin 4} {v : Int64} (hdg : decode cc pc = .ok (.lload_n i, 1)) (q : Nat) (hq : lv[q]? = some ((i : Nat), .long v)) (k1 : J G l cc nL own ret nm fr lc Q (pc + 1) lv (.long v :: st) M k) : J G l cc nL own ret nm fr lc Q pc lv st M k := J_step (fun x A _ _ _ _ _ _ hl w => lv_lload_n A.1 A.2.1 hdg rfl (lv_at hl q hq) w) k1
theorem J_lload {i : Nat} {v : Int64} (hdg : decode cc pc = .ok (.lload i, 2)) (q : Nat) (hq : lv[q]? = some (i, .long v)) (k1 : J G l cc nL own ret nm fr lc Q (pc + 2) lv (.long v :: st) M k) : J G l cc nL own ret nm fr lc Q pc lv st M k := J_step (fun x A _ _ _ _ _ _ hl w => lv_lload A.1 A.2.1 hdg (lv_at hl q hq) w) k1
theorem J_aload_n {i : Fin 4} {v : Nat} (hdg : decode cc pc = .ok (.aload_n i, 1)) (q : Nat) (hq : lv[q]? = some ((i : Nat), .ref v)) (k1 : J G l cc nL own ret nm fr lc Q (pc + 1) lv (.ref v :: st) M k) : J G l cc nL own ret nm fr lc Q pc lv st M k := J_step (fun x A _ _ _ _ _ _ hl w => lv_aload_n A.1 A.2.1 hdg rfl (lv_at hl q hq) w) k1
theorem J_aload {i : Nat} {v : Nat} (hdg : decode cc pc = .ok (.aload i, 2)) (q : Nat) (hq : lv[q]? = some (i, .ref v)) (k1 : J G l cc nL own ret nm fr lc Q (pc + 2) lv (.ref v :: st) M k) : J G l cc nL own ret nm fr lc Q pc lv st M k := J_step (fun x A _ _ _ _ _ _ hl w => lv_aload A.1 A.2.1 hdg (lv_at hl q hq) w) k1
theorem J_istore_n {i : Fin 4} {v : Int32} (hdg : decode cc pc = .ok (.istore_n i, 1)) (hn : (i : Nat) < nL) (hl : ((i : Nat), Value.int v) :: lv.filter (fun q => !(q.1 == (i : Nat)) && !(q.1 + 1 == (i : Nat) && q.2.category == 2)) = lv') (k1 : J G l cc nL own ret nm fr lc Q (pc + 1) lv' st M k) : J G l cc nL own ret nm fr lc Q pc lv (.int v :: st) M k := J_stepL (fun x A _ _ _ _ _ _ h w => lv_istore_n A.1 A.2.1 hdg rfl h hn hl w) k1
theorem J_istore {i : Nat} {v : Int32} (hdg : decode cc pc = .ok (.istore i, 2)) (hn : i < nL) (hl : (i, Value.int v) :: lv.filter (fun q => !(q.1 == i) && !(q.1 + 1 == i && q.2.category == 2)) = lv') (k1 : J G l cc nL own ret nm fr lc Q (pc + 2) lv' st M k) : J G l cc nL own ret nm fr lc Q pc lv (.int v :: st) M k := J_stepL (fun x A _ _ _ _ _ _ h w => lv_istore A.1 A.2.1 hdg h hn hl w) k1
theorem J_astore_n {i : Fin 4} {v : Nat} (hdg : decode cc pc = .ok (.astore_n i, 1)) (hn : (i : Nat) < nL) (hl : ((i : Nat), Value.ref v) :: lv.filter (fun q => !(q.1 == (i : Nat)) && !(q.1 + 1 == (i : Nat) && q.2.category == 2)) = lv') (k1 : J G l cc nL own ret nm fr lc Q (pc + 1) lv' st M k) : J G l cc nL own ret nm fr lc Q pc lv (.ref v :: st) M k := J_stepL (fun x A _ _ _ _ _ _ h w => lv_astore_n A.1 A.2.1 hdg rfl h hn hl w) k1
theorem J_astore {i : Nat} {v : Nat} (hdg : decode cc pc = .ok (.astore i, 2)) (hn : i < nL) (hl : (i, Value.ref v) :: lv.filter (fun q => !(q.1 == i) && !(q.1 + 1 == i && q.2.category == 2)) = lv') (k1 : J G l cc nL own ret nm fr lc Q (pc + 2) lv' st M k) : J G l cc nL own ret nm fr lc Q pc lv (.ref v :: st) M k := J_stepL (fun x A _ _ _ _ _ _ h w => lv_astore A.1 A.2.1 hdg h hn hl w) k1
theorem J_lstore_n {i : Fin 4} {v : Int64} (hdg : decode cc pc = .ok (.lstore_n i, 1)) (hn : (i : Nat) + 1 < nL) (hl : ((i : Nat), Value.long v) :: lv.filter (fun q => !(q.1 == (i : Nat)) && (!(q.1 == (i : Nat) + 1) && !(q.1 + 1 == (i : Nat) && q.2.category == 2))) = lv') (k1 : J G l cc nL own ret nm fr lc Q (pc + 1) lv' st M k) : J G l cc nL own ret nm fr lc Q pc lv (.long v :: st) M k := J_stepL (fun x A _ _ _ _ _ _ h w => lv_lstore_n A.1 A.2.1 hdg rfl h hn hl w) k1
theorem J_lstore {i : Nat} {v : Int64} (hdg : decode cc pc = .ok (.lstore i, 2)) (hn : i + 1 < nL) (hl : (i, Value.long v) :: lv.filter (fun q => !(q.1 == i) && (!(q.1 == i + 1) && !(q.1 + 1 == i && q.2.category == 2))) = lv') (k1 : J G l cc nL own ret nm fr lc Q (pc + 2) lv' st M k) : J G l cc nL own ret nm fr lc Q pc lv (.long v :: st) M k := J_stepL (fun x A _ _ _ _ _ _ h w => lv_lstore A.1 A.2.1 hdg h hn hl w) k1
theorem J_iinc {i : Nat} {n : Int} {v z : Int32} (hdg : decode cc pc = .ok (.iinc i n, 3)) (q : Nat) (hq : lv[q]? = some (i, .int v)) (hv : v + Int32.ofInt n = z) (hn : i < nL) (hl : (i, Value.int z) :: lv.filter (fun q => !(q.1 == i) && !(q.1 + 1 == i && q.2.category == 2)) = lv') (k1 : J G l cc nL own ret nm fr lc Q (pc + 3) lv' st M k) : J G l cc nL own ret nm fr lc Q pc lv st M k := J_stepL (fun x A _ _ _ _ _ _ h w => lv_iinc A.1 A.2.1 hdg h hq hv hn hl w) k1
theorem J_pop {v : Value} (hdg : decode cc pc = .ok (.pop, 1)) (hv : v.category = 1) (k1 : J G l cc nL own ret nm fr lc Q (pc + 1) lv st M k) : J G l cc nL own ret nm fr lc Q pc lv (v :: st) M k := J_step (fun x A _ _ _ _ _ _ _ w => lv_pop A.1 A.2.1 hdg hv w) k1
theorem J_dup {v : Value} (hdg : decode cc pc = .ok (.dup, 1)) (hv : v.category = 1) (k1 : J G l cc nL own ret nm fr lc Q (pc + 1) lv (v :: v :: st) M k) : J G l cc nL own ret nm fr lc Q pc lv (v :: st) M k := J_step (fun x A _ _ _ _ _ _ _ w => lv_dup A.1 A.2.1 hdg hv w) k1
theorem J_dup2 {v z : Value} (hdg : decode cc pc = .ok (.dup2, 1)) (hv : v.category = 1) (hz : z.category = 1) (k1 : J G l cc nL own ret nm fr lc Q (pc + 1) lv (v :: z :: v :: z :: st) M k) : J G l cc nL own ret nm fr lc Q pc lv (v :: z :: st) M k := J_step (fun x A _ _ _ _ _ _ _ w => lv_dup2_11 A.1 A.2.1 hdg hv hz w) k1
theorem J_iadd {a b : Int32} (hdg : decode cc pc = .ok (.iadd, 1)) (k1 : J G l cc nL own ret nm fr lc Q (pc + 1) lv (.int (a + b) :: st) M k) : J G l cc nL own ret nm fr lc Q pc lv (.int b :: .int a :: st) M k := J_step (fun x A _ _ _ _ _ _ _ w => lv_iadd A.1 A.2.1 hdg w) k1
theorem J_isub {a b : Int32} (hdg : decode cc pc = .ok (.isub, 1)) (k1 : J G l cc nL own ret nm fr lc Q (pc + 1) lv (.int (a - b) :: st) M k) : J G l cc nL own ret nm fr lc Q pc lv (.int b :: .int a :: st) M k := J_step (fun x A _ _ _ _ _ _ _ w => lv_isub A.1 A.2.1 hdg w) k1
theorem J_imul {a b : Int32} (hdg : decode cc pc = .ok (.imul, 1)) (k1 : J G l cc nL own ret nm fr lc Q (pc + 1) lv (.int (a * b) :: st) M k) : J G l cc nL own ret nm fr lc Q pc lv (.int b :: .int a :: st) M k := J_step (fun x A _ _ _ _ _ _ _ w => lv_imul A.1 A.2.1 hdg w) k1
theorem J_iand {a b : Int32} (hdg : decode cc pc = .ok (.iand, 1)) (k1 : J G l cc nL own ret nm fr lc Q (pc + 1) lv (.int (a &&& b) :: st) M k) : J G l cc nL own ret nm fr lc Q pc lv (.int b :: .int a :: st) M k := J_step (fun x A _ _ _ _ _ _ _ w => lv_iand A.1 A.2.1 hdg w) k1
theorem J_ior {a b : Int32} (hdg : decode cc pc = .ok (.ior, 1)) (k1 : J G l cc nL own ret nm fr lc Q (pc + 1) lv (.int (a ||| b) :: st) M k) : J G l cc nL own ret nm fr lc Q pc lv (.int b :: .int a :: st) M k := J_step (fun x A _ _ _ _ _ _ _ w => lv_ior A.1 A.2.1 hdg w) k1
theorem J_ixor {a b : Int32} (hdg : decode cc pc = .ok (.ixor, 1)) (k1 : J G l cc nL own ret nm fr lc Q (pc + 1) lv (.int (a ^^^ b) :: st) M k) : J G l cc nL own ret nm fr lc Q pc lv (.int b :: .int a :: st) M k := J_step (fun x A _ _ _ _ _ _ _ w => lv_ixor A.1 A.2.1 hdg w) k1
theorem J_ishl {a b : Int32} (hdg : decode cc pc = .ok (.ishl, 1)) (k1 : J G l cc nL own ret nm fr lc Q (pc + 1) lv (.int (a <<< (b &&& 31)) :: st) M k) : J G l cc nL own ret nm fr lc Q pc lv (.int b :: .int a :: st) M k := J_step (fun x A _ _ _ _ _ _ _ w => lv_ishl A.1 A.2.1 hdg w) k1
theorem J_ishr {a b : Int32} (hdg : decode cc pc = .ok (.ishr, 1)) (k1 : J G l cc nL own ret nm fr lc Q (pc + 1) lv (.int (a >>> (b &&& 31)) :: st) M k) : J G l cc nL own ret nm fr lc Q pc lv (.int b :: .int a :: st) M k := J_step (fun x A _ _ _ _ _ _ _ w => lv_ishr A.1 A.2.1 hdg w) k1
theorem J_ladd {a b : Int64} (hdg : decode cc pc = .ok (.ladd, 1)) (k1 : J G l cc nL own ret nm fr lc Q (pc + 1) lv (.long (a + b) :: st) M k) : J G l cc nL own ret nm fr lc Q pc lv (.long b :: .long a :: st) M k := J_step (fun x A _ _ _ _ _ _ _ w => lv_ladd A.1 A.2.1 hdg w) k1
theorem J_lsub {a b : Int64} (hdg : decode cc pc = .ok (.lsub, 1)) (k1 : J G l cc nL own ret nm fr lc Q (pc + 1) lv (.long (a - b) :: st) M k) : J G l cc nL own ret nm fr lc Q pc lv (.long b :: .long a :: st) M k := J_step (fun x A _ _ _ _ _ _ _ w => lv_lsub A.1 A.2.1 hdg w) k1
theorem J_lmul {a b : Int64} (hdg : decode cc pc = .ok (.lmul, 1)) (k1 : J G l cc nL own ret nm fr lc Q (pc + 1) lv (.long (a * b) :: st) M k) : J G l cc nL own ret nm fr lc Q pc lv (.long b :: .long a :: st) M k := J_step (fun x A _ _ _ _ _ _ _ w => lv_lmul A.1 A.2.1 hdg w) k1
theorem J_land {a b : Int64} (hdg : decode cc pc = .ok (.land, 1)) (k1 : J G l cc nL own ret nm fr lc Q (pc + 1) lv (.long (a &&& b) :: st) M k) : J G l cc nL own ret nm fr lc Q pc lv (.long b :: .long a :: st) M k := J_step (fun x A _ _ _ _ _ _ _ w => lv_land A.1 A.2.1 hdg w) k1
theorem J_lor {a b : Int64} (hdg : decode cc pc = .ok (.lor, 1)) (k1 : J G l cc nL own ret nm fr lc Q (pc + 1) lv (.long (a ||| b) :: st) M k) : J G l cc nL own ret nm fr lc Q pc lv (.long b :: .long a :: st) M k := J_step (fun x A _ _ _ _ _ _ _ w => lv_lor A.1 A.2.1 hdg w) k1
theorem J_lxor {a b : Int64} (hdg : decode cc pc = .ok (.lxor, 1)) (k1 : J G l cc nL own ret nm fr lc Q (pc + 1) lv (.long (a ^^^ b) :: st) M k) : J G l cc nL own ret nm fr lc Q pc lv (.long b :: .long a :: st) M k := J_step (fun x A _ _ _ _ _ _ _ w => lv_lxor A.1 A.2.1 hdg w) k1
theorem J_lneg {a : Int64} (hdg : decode cc pc = .ok (.lneg, 1)) (k1 : J G l cc nL own ret nm fr lc Q (pc + 1) lv (.long (0 - a) :: st) M k) : J G l cc nL own ret nm fr lc Q pc lv (.long a :: st) M k := J_step (fun x A _ _ _ _ _ _ _ w => lv_lneg A.1 A.2.1 hdg (by first | exact w | (rw [Int64.zero_sub] at w; exact w))) k1
theorem J_iushr {a b : Int32} (hdg : decode cc pc = .ok (.iushr, 1)) (k1 : J G l cc nL own ret nm fr lc Q (pc + 1) lv (.int ((a.toUInt32 >>> (b.toUInt32 &&& Int32.toUInt32 31)).toInt32) :: st) M k) : J G l cc nL own ret nm fr lc Q pc lv (.int b :: .int a :: st) M k := J_step (fun x A _ _ _ _ _ _ _ w => lv_iushr A.1 A.2.1 hdg rfl w) k1
theorem J_lushr {a : Int64} {b : Int32} (hdg : decode cc pc = .ok (.lushr, 1)) (k1 : J G l cc nL own ret nm fr lc Q (pc + 1) lv (.long ((a.toUInt64 >>> (b.toInt64.toUInt64 &&& Int64.toUInt64 63)).toInt64) :: st) M k) : J G l cc nL own ret nm fr lc Q pc lv (.int b :: .long a :: st) M k := J_step (fun x A _ _ _ _ _ _ _ w => lv_lushr A.1 A.2.1 hdg rfl w) k1
theorem J_lshl {a : Int64} {b : Int32} (hdg : decode cc pc = .ok (.lshl, 1)) (k1 : J G l cc nL own ret nm fr lc Q (pc + 1) lv (.long (a <<< (b.toInt64 &&& 63)) :: st) M k) : J G l cc nL own ret nm fr lc Q pc lv (.int b :: .long a :: st) M k := J_step (fun x A _ _ _ _ _ _ _ w => lv_lshl A.1 A.2.1 hdg rfl w) k1
theorem J_lshr {a : Int64} {b : Int32} (hdg : decode cc pc = .ok (.lshr, 1)) (k1 : J G l cc nL own ret nm fr lc Q (pc + 1) lv (.long (a >>> (b.toInt64 &&& 63)) :: st) M k) : J G l cc nL own ret nm fr lc Q pc lv (.int b :: .long a :: st) M k := J_step (fun x A _ _ _ _ _ _ _ w => lv_lshr A.1 A.2.1 hdg rfl w) k1
theorem J_i2l {a : Int32} (hdg : decode cc pc = .ok (.i2l, 1)) (k1 : J G l cc nL own ret nm fr lc Q (pc + 1) lv (.long a.toInt64 :: st) M k) : J G l cc nL own ret nm fr lc Q pc lv (.int a :: st) M k := J_step (fun x A _ _ _ _ _ _ _ w => lv_i2l A.1 A.2.1 hdg rfl w) k1
theorem J_l2i {a : Int64} (hdg : decode cc pc = .ok (.l2i, 1)) (k1 : J G l cc nL own ret nm fr lc Q (pc + 1) lv (.int a.toInt32 :: st) M k) : J G l cc nL own ret nm fr lc Q pc lv (.long a :: st) M k := J_step (fun x A _ _ _ _ _ _ _ w => lv_l2i A.1 A.2.1 hdg rfl w) k1
theorem J_i2b {a : Int32} (hdg : decode cc pc = .ok (.i2b, 1)) (k1 : J G l cc nL own ret nm fr lc Q (pc + 1) lv (.int a.toInt8.toInt32 :: st) M k) : J G l cc nL own ret nm fr lc Q pc lv (.int a :: st) M k := J_step (fun x A _ _ _ _ _ _ _ w => lv_i2b A.1 A.2.1 hdg rfl w) k1
theorem J_i2s {a : Int32} (hdg : decode cc pc = .ok (.i2s, 1)) (k1 : J G l cc nL own ret nm fr lc Q (pc + 1) lv (.int a.toInt16.toInt32 :: st) M k) : J G l cc nL own ret nm fr lc Q pc lv (.int a :: st) M k := J_step (fun x A _ _ _ _ _ _ _ w => lv_i2s A.1 A.2.1 hdg rfl w) k1
theorem J_lcmp {a b : Int64} (hdg : decode cc pc = .ok (.lcmp, 1)) (k1 : J G l cc nL own ret nm fr lc Q (pc + 1) lv (.int (lg_cmp a b) :: st) M k) : J G l cc nL own ret nm fr lc Q pc lv (.long b :: .long a :: st) M k := J_step (fun x A _ _ _ _ _ _ _ w => W.lcmp A.1 A.2.1 hdg w) k1
theorem J_idiv {a b : Int32} (hdg : decode cc pc = .ok (.idiv, 1)) (k1 : J G l cc nL own ret nm fr lc Q (pc + 1) lv (.int (a / b) :: st) M k) : J G l cc nL own ret nm fr lc Q pc lv (.int b :: .int a :: st) M (if b = 0 then none else k) := J_ite (fun _ => J_none) (fun h => J_step (fun x A _ _ _ _ _ _ _ w => lv_idiv A.1 A.2.1 hdg h w) k1)
theorem J_irem {a b : Int32} (hdg : decode cc pc = .ok (.irem, 1)) (k1 : J G l cc nL own ret nm fr lc Q (pc + 1) lv (.int (a - a / b * b) :: st) M k) : J G l cc nL own ret nm fr lc Q pc lv (.int b :: .int a :: st) M (if b = 0 then none else k) := J_ite (fun _ => J_none) (fun h => J_step (fun x A _ _ _ _ _ _ _ w => lv_irem A.1 A.2.1 hdg h w) k1)
theorem J_goto {off : Int} {tgt : Nat} (hdg : decode cc pc = .ok (.goto off, 3)) (ht : (pc : Int) + off = (tgt : Int)) (k1 : J G l cc nL own ret nm fr lc Q tgt lv st M k) : J G l cc nL own ret nm fr lc Q pc lv st M k := J_step (fun x A _ _ _ _ _ _ _ w => lv_goto A.1 A.2.1 hdg ht w) k1
theorem J_tabO {dflt lo hi : Int} {offs : Array Int} {len : Nat} {v : Int32} {tgt : Nat} (hdg : decode cc pc = .ok (.tableswitch dflt lo hi offs, len)) (h : v.toInt < lo ∨ hi < v.toInt) (ht : (pc : Int) + dflt = (tgt : Int)) (k1 : J G l cc nL own ret nm fr lc Q tgt lv st M k) : J G l cc nL own ret nm fr lc Q pc lv (.int v :: st) M k := J_step (fun x A _ _ _ _ _ _ _ w => lv_tableOut A.1 A.2.1 hdg h ht w) k1
theorem J_tabI {dflt lo hi : Int} {offs : Array Int} {len : Nat} {v : Int32} {off : Int} {tgt : Nat} (hdg : decode cc pc = .ok (.tableswitch dflt lo hi offs, len)) (h1 : ¬ v.toInt < lo) (h2 : ¬ hi < v.toInt) (ho : offs[(v.toInt - lo).toNat]? = some off) (ht : (pc : Int) + off = (tgt : Int)) (k1 : J G l cc nL own ret nm fr lc Q tgt lv st M k) : J G l cc nL own ret nm fr lc Q pc lv (.int v :: st) M k := J_step (fun x A _ _ _ _ _ _ _ w => lv_tableIn A.1 A.2.1 hdg h1 h2 ho ht w) k1
end CoreA
end
section
theorem ite_iff {α : Type} {c d : Prop} [Decidable c] [Decidable d] {a b : α} (h : c ↔ d) : (if c then a else b) = (if d then a else b) := by
  by_cases q : c
  · rw [if_pos q, if_pos (h.mp q)]
  · rw [if_neg q, if_neg (fun z => q (h.mpr z))]
section CoreB
variable {G : Gx} {l : Launch} {cc : ByteArray} {nL : Nat} {own : String} {ret : Option FieldType} {nm : String} {fr lc : Nat} {α : Type} {Q : Cx → Mem → α → Mem → State → Prop} {M M' : Mem} {pc pc' : Nat} {lv lv' : List (Nat × Value)} {st st' : List Value} {k k1 k2 : Option (α × Mem)}
theorem J_if_eq {a : Int32} {off : Int} {tgt : Nat} (hdg : decode cc pc = .ok (.ifCond .eq off, 3)) (ht : (pc : Int) + off = (tgt : Int)) (h1 : J G l cc nL own ret nm fr lc Q tgt lv st M k1) (h2 : J G l cc nL own ret nm fr lc Q (pc + 3) lv st M k2) : J G l cc nL own ret nm fr lc Q pc lv (.int a :: st) M (if a = 0 then k1 else k2) := J_ite (fun h => J_step (fun x A _ _ _ _ _ _ _ w => lv_if_eq A.1 A.2.1 hdg ht (fun _ => w) (fun n => absurd h n)) h1) (fun h => J_step (fun x A _ _ _ _ _ _ _ w => lv_if_eq A.1 A.2.1 hdg ht (fun n => absurd n h) (fun _ => w)) h2)
theorem J_icmp_eq {a b : Int32} {off : Int} {tgt : Nat} (hdg : decode cc pc = .ok (.if_icmp .eq off, 3)) (ht : (pc : Int) + off = (tgt : Int)) (h1 : J G l cc nL own ret nm fr lc Q tgt lv st M k1) (h2 : J G l cc nL own ret nm fr lc Q (pc + 3) lv st M k2) : J G l cc nL own ret nm fr lc Q pc lv (.int b :: .int a :: st) M (if a = b then k1 else k2) := J_ite (fun h => J_step (fun x A _ _ _ _ _ _ _ w => lv_icmp_eq A.1 A.2.1 hdg ht (fun _ => w) (fun n => absurd h n)) h1) (fun h => J_step (fun x A _ _ _ _ _ _ _ w => lv_icmp_eq A.1 A.2.1 hdg ht (fun n => absurd n h) (fun _ => w)) h2)
theorem J_lcmp_eq {a b : Int64} {off : Int} {tgt : Nat} (hdl : decode cc pc = .ok (.lcmp, 1)) (hdg : decode cc (pc + 1) = .ok (.ifCond .eq off, 3)) (ht : ((pc + 1 : Nat) : Int) + off = (tgt : Int)) (h1 : J G l cc nL own ret nm fr lc Q tgt lv st M k1) (h2 : J G l cc nL own ret nm fr lc Q (pc + 1 + 3) lv st M k2) : J G l cc nL own ret nm fr lc Q pc lv (.long b :: .long a :: st) M (if a = b then k1 else k2) := by
  have q := J_lcmp hdl (a := a) (b := b) (J_if_eq hdg ht h1 h2)
  rw [show (if lg_cmp a b = 0 then k1 else k2) = (if a = b then k1 else k2) from ite_iff (lg_cmp_eq a b)] at q
  exact q
theorem J_if_ne {a : Int32} {off : Int} {tgt : Nat} (hdg : decode cc pc = .ok (.ifCond .ne off, 3)) (ht : (pc : Int) + off = (tgt : Int)) (h1 : J G l cc nL own ret nm fr lc Q tgt lv st M k1) (h2 : J G l cc nL own ret nm fr lc Q (pc + 3) lv st M k2) : J G l cc nL own ret nm fr lc Q pc lv (.int a :: st) M (if a = 0 then k2 else k1) := J_ite (fun h => J_step (fun x A _ _ _ _ _ _ _ w => lv_if_ne A.1 A.2.1 hdg ht (fun n => absurd h n) (fun _ => w)) h2) (fun h => J_step (fun x A _ _ _ _ _ _ _ w => lv_if_ne A.1 A.2.1 hdg ht (fun _ => w) (fun n => absurd n h)) h1)
theorem J_icmp_ne {a b : Int32} {off : Int} {tgt : Nat} (hdg : decode cc pc = .ok (.if_icmp .ne off, 3)) (ht : (pc : Int) + off = (tgt : Int)) (h1 : J G l cc nL own ret nm fr lc Q tgt lv st M k1) (h2 : J G l cc nL own ret nm fr lc Q (pc + 3) lv st M k2) : J G l cc nL own ret nm fr lc Q pc lv (.int b :: .int a :: st) M (if a = b then k2 else k1) := J_ite (fun h => J_step (fun x A _ _ _ _ _ _ _ w => lv_icmp_ne A.1 A.2.1 hdg ht (fun n => absurd h n) (fun _ => w)) h2) (fun h => J_step (fun x A _ _ _ _ _ _ _ w => lv_icmp_ne A.1 A.2.1 hdg ht (fun _ => w) (fun n => absurd n h)) h1)
theorem J_lcmp_ne {a b : Int64} {off : Int} {tgt : Nat} (hdl : decode cc pc = .ok (.lcmp, 1)) (hdg : decode cc (pc + 1) = .ok (.ifCond .ne off, 3)) (ht : ((pc + 1 : Nat) : Int) + off = (tgt : Int)) (h1 : J G l cc nL own ret nm fr lc Q tgt lv st M k1) (h2 : J G l cc nL own ret nm fr lc Q (pc + 1 + 3) lv st M k2) : J G l cc nL own ret nm fr lc Q pc lv (.long b :: .long a :: st) M (if a = b then k2 else k1) := by
  have q := J_lcmp hdl (a := a) (b := b) (J_if_ne hdg ht h1 h2)
  rw [show (if lg_cmp a b = 0 then k2 else k1) = (if a = b then k2 else k1) from ite_iff (lg_cmp_eq a b)] at q
  exact q
theorem J_if_lt {a : Int32} {off : Int} {tgt : Nat} (hdg : decode cc pc = .ok (.ifCond .lt off, 3)) (ht : (pc : Int) + off = (tgt : Int)) (h1 : J G l cc nL own ret nm fr lc Q tgt lv st M k1) (h2 : J G l cc nL own ret nm fr lc Q (pc + 3) lv st M k2) : J G l cc nL own ret nm fr lc Q pc lv (.int a :: st) M (if a < 0 then k1 else k2) := J_ite (fun h => J_step (fun x A _ _ _ _ _ _ _ w => lv_if_lt A.1 A.2.1 hdg ht (fun _ => w) (fun n => absurd h n)) h1) (fun h => J_step (fun x A _ _ _ _ _ _ _ w => lv_if_lt A.1 A.2.1 hdg ht (fun n => absurd n h) (fun _ => w)) h2)
theorem J_icmp_lt {a b : Int32} {off : Int} {tgt : Nat} (hdg : decode cc pc = .ok (.if_icmp .lt off, 3)) (ht : (pc : Int) + off = (tgt : Int)) (h1 : J G l cc nL own ret nm fr lc Q tgt lv st M k1) (h2 : J G l cc nL own ret nm fr lc Q (pc + 3) lv st M k2) : J G l cc nL own ret nm fr lc Q pc lv (.int b :: .int a :: st) M (if a < b then k1 else k2) := J_ite (fun h => J_step (fun x A _ _ _ _ _ _ _ w => lv_icmp_lt A.1 A.2.1 hdg ht (fun _ => w) (fun n => absurd h n)) h1) (fun h => J_step (fun x A _ _ _ _ _ _ _ w => lv_icmp_lt A.1 A.2.1 hdg ht (fun n => absurd n h) (fun _ => w)) h2)
theorem J_lcmp_lt {a b : Int64} {off : Int} {tgt : Nat} (hdl : decode cc pc = .ok (.lcmp, 1)) (hdg : decode cc (pc + 1) = .ok (.ifCond .lt off, 3)) (ht : ((pc + 1 : Nat) : Int) + off = (tgt : Int)) (h1 : J G l cc nL own ret nm fr lc Q tgt lv st M k1) (h2 : J G l cc nL own ret nm fr lc Q (pc + 1 + 3) lv st M k2) : J G l cc nL own ret nm fr lc Q pc lv (.long b :: .long a :: st) M (if a < b then k1 else k2) := by
  have q := J_lcmp hdl (a := a) (b := b) (J_if_lt hdg ht h1 h2)
  rw [show (if lg_cmp a b < 0 then k1 else k2) = (if a < b then k1 else k2) from ite_iff (lg_cmp_lt a b)] at q
  exact q
theorem J_if_ge {a : Int32} {off : Int} {tgt : Nat} (hdg : decode cc pc = .ok (.ifCond .ge off, 3)) (ht : (pc : Int) + off = (tgt : Int)) (h1 : J G l cc nL own ret nm fr lc Q tgt lv st M k1) (h2 : J G l cc nL own ret nm fr lc Q (pc + 3) lv st M k2) : J G l cc nL own ret nm fr lc Q pc lv (.int a :: st) M (if 0 ≤ a then k1 else k2) := J_ite (fun h => J_step (fun x A _ _ _ _ _ _ _ w => lv_if_ge A.1 A.2.1 hdg ht (fun _ => w) (fun n => absurd h n)) h1) (fun h => J_step (fun x A _ _ _ _ _ _ _ w => lv_if_ge A.1 A.2.1 hdg ht (fun n => absurd n h) (fun _ => w)) h2)
theorem J_icmp_ge {a b : Int32} {off : Int} {tgt : Nat} (hdg : decode cc pc = .ok (.if_icmp .ge off, 3)) (ht : (pc : Int) + off = (tgt : Int)) (h1 : J G l cc nL own ret nm fr lc Q tgt lv st M k1) (h2 : J G l cc nL own ret nm fr lc Q (pc + 3) lv st M k2) : J G l cc nL own ret nm fr lc Q pc lv (.int b :: .int a :: st) M (if b ≤ a then k1 else k2) := J_ite (fun h => J_step (fun x A _ _ _ _ _ _ _ w => lv_icmp_ge A.1 A.2.1 hdg ht (fun _ => w) (fun n => absurd h n)) h1) (fun h => J_step (fun x A _ _ _ _ _ _ _ w => lv_icmp_ge A.1 A.2.1 hdg ht (fun n => absurd n h) (fun _ => w)) h2)
theorem J_lcmp_ge {a b : Int64} {off : Int} {tgt : Nat} (hdl : decode cc pc = .ok (.lcmp, 1)) (hdg : decode cc (pc + 1) = .ok (.ifCond .ge off, 3)) (ht : ((pc + 1 : Nat) : Int) + off = (tgt : Int)) (h1 : J G l cc nL own ret nm fr lc Q tgt lv st M k1) (h2 : J G l cc nL own ret nm fr lc Q (pc + 1 + 3) lv st M k2) : J G l cc nL own ret nm fr lc Q pc lv (.long b :: .long a :: st) M (if b ≤ a then k1 else k2) := by
  have q := J_lcmp hdl (a := a) (b := b) (J_if_ge hdg ht h1 h2)
  rw [show (if 0 ≤ lg_cmp a b then k1 else k2) = (if b ≤ a then k1 else k2) from ite_iff (lg_cmp_ge a b)] at q
  exact q
theorem J_if_gt {a : Int32} {off : Int} {tgt : Nat} (hdg : decode cc pc = .ok (.ifCond .gt off, 3)) (ht : (pc : Int) + off = (tgt : Int)) (h1 : J G l cc nL own ret nm fr lc Q tgt lv st M k1) (h2 : J G l cc nL own ret nm fr lc Q (pc + 3) lv st M k2) : J G l cc nL own ret nm fr lc Q pc lv (.int a :: st) M (if 0 < a then k1 else k2) := J_ite (fun h => J_step (fun x A _ _ _ _ _ _ _ w => lv_if_gt A.1 A.2.1 hdg ht (fun _ => w) (fun n => absurd h n)) h1) (fun h => J_step (fun x A _ _ _ _ _ _ _ w => lv_if_gt A.1 A.2.1 hdg ht (fun n => absurd n h) (fun _ => w)) h2)
theorem J_icmp_gt {a b : Int32} {off : Int} {tgt : Nat} (hdg : decode cc pc = .ok (.if_icmp .gt off, 3)) (ht : (pc : Int) + off = (tgt : Int)) (h1 : J G l cc nL own ret nm fr lc Q tgt lv st M k1) (h2 : J G l cc nL own ret nm fr lc Q (pc + 3) lv st M k2) : J G l cc nL own ret nm fr lc Q pc lv (.int b :: .int a :: st) M (if b < a then k1 else k2) := J_ite (fun h => J_step (fun x A _ _ _ _ _ _ _ w => lv_icmp_gt A.1 A.2.1 hdg ht (fun _ => w) (fun n => absurd h n)) h1) (fun h => J_step (fun x A _ _ _ _ _ _ _ w => lv_icmp_gt A.1 A.2.1 hdg ht (fun n => absurd n h) (fun _ => w)) h2)
theorem J_lcmp_gt {a b : Int64} {off : Int} {tgt : Nat} (hdl : decode cc pc = .ok (.lcmp, 1)) (hdg : decode cc (pc + 1) = .ok (.ifCond .gt off, 3)) (ht : ((pc + 1 : Nat) : Int) + off = (tgt : Int)) (h1 : J G l cc nL own ret nm fr lc Q tgt lv st M k1) (h2 : J G l cc nL own ret nm fr lc Q (pc + 1 + 3) lv st M k2) : J G l cc nL own ret nm fr lc Q pc lv (.long b :: .long a :: st) M (if b < a then k1 else k2) := by
  have q := J_lcmp hdl (a := a) (b := b) (J_if_gt hdg ht h1 h2)
  rw [show (if 0 < lg_cmp a b then k1 else k2) = (if b < a then k1 else k2) from ite_iff (lg_cmp_gt a b)] at q
  exact q
theorem J_if_le {a : Int32} {off : Int} {tgt : Nat} (hdg : decode cc pc = .ok (.ifCond .le off, 3)) (ht : (pc : Int) + off = (tgt : Int)) (h1 : J G l cc nL own ret nm fr lc Q tgt lv st M k1) (h2 : J G l cc nL own ret nm fr lc Q (pc + 3) lv st M k2) : J G l cc nL own ret nm fr lc Q pc lv (.int a :: st) M (if a ≤ 0 then k1 else k2) := J_ite (fun h => J_step (fun x A _ _ _ _ _ _ _ w => lv_if_le A.1 A.2.1 hdg ht (fun _ => w) (fun n => absurd h n)) h1) (fun h => J_step (fun x A _ _ _ _ _ _ _ w => lv_if_le A.1 A.2.1 hdg ht (fun n => absurd n h) (fun _ => w)) h2)
theorem J_icmp_le {a b : Int32} {off : Int} {tgt : Nat} (hdg : decode cc pc = .ok (.if_icmp .le off, 3)) (ht : (pc : Int) + off = (tgt : Int)) (h1 : J G l cc nL own ret nm fr lc Q tgt lv st M k1) (h2 : J G l cc nL own ret nm fr lc Q (pc + 3) lv st M k2) : J G l cc nL own ret nm fr lc Q pc lv (.int b :: .int a :: st) M (if a ≤ b then k1 else k2) := J_ite (fun h => J_step (fun x A _ _ _ _ _ _ _ w => lv_icmp_le A.1 A.2.1 hdg ht (fun _ => w) (fun n => absurd h n)) h1) (fun h => J_step (fun x A _ _ _ _ _ _ _ w => lv_icmp_le A.1 A.2.1 hdg ht (fun n => absurd n h) (fun _ => w)) h2)
theorem J_lcmp_le {a b : Int64} {off : Int} {tgt : Nat} (hdl : decode cc pc = .ok (.lcmp, 1)) (hdg : decode cc (pc + 1) = .ok (.ifCond .le off, 3)) (ht : ((pc + 1 : Nat) : Int) + off = (tgt : Int)) (h1 : J G l cc nL own ret nm fr lc Q tgt lv st M k1) (h2 : J G l cc nL own ret nm fr lc Q (pc + 1 + 3) lv st M k2) : J G l cc nL own ret nm fr lc Q pc lv (.long b :: .long a :: st) M (if a ≤ b then k1 else k2) := by
  have q := J_lcmp hdl (a := a) (b := b) (J_if_le hdg ht h1 h2)
  rw [show (if lg_cmp a b ≤ 0 then k1 else k2) = (if a ≤ b then k1 else k2) from ite_iff (lg_cmp_le a b)] at q
  exact q
end CoreB
end
section
-- what a call of the memory answers: reads and writes, none where the machine would throw
def okA (M : Mem) (ty : FieldType) (c : Nat) (i : Int32) : Bool := decide (c < M.1) && (match mSh M c with
  | .inl (t, n) => decide (t = ty) && decide (¬ (i < 0 ∨ n ≤ i.toNatClampNeg))
  | .inr _ => false)
def okO (M : Mem) (ci c : Nat) : Bool := decide (c < M.1) && decide (nS ≤ c) && (match mSh M c with
  | .inl _ => false
  | .inr z => decide (z = ci))
theorem okA_spec {M : Mem} {ty : FieldType} {c : Nat} {i : Int32} (h : okA M ty c i = true) : c < M.1 ∧ ∃ n, mSh M c = .inl (ty, n) ∧ vp_in i n := by
  unfold okA at h
  rw [Bool.and_eq_true] at h
  refine ⟨of_decide_eq_true h.1, ?_⟩
  have h2 := h.2
  split at h2
  · next t n e =>
    rw [Bool.and_eq_true] at h2
    have e1 := of_decide_eq_true h2.1
    subst e1
    exact ⟨n, e, (of_decide_eq_true h2.2 : ¬ (i < 0 ∨ n ≤ i.toNatClampNeg))⟩
  · cases h2
theorem okA_of {M : Mem} {ty : FieldType} {c : Nat} {i : Int32} {n : Nat} (h : c < M.1) (e : mSh M c = .inl (ty, n)) (hi : vp_in i n) : okA M ty c i = true := by
  unfold okA
  rw [e, Bool.and_eq_true]
  refine ⟨decide_eq_true h, ?_⟩
  show (decide (ty = ty) && decide (¬ (i < 0 ∨ n ≤ i.toNatClampNeg))) = true
  rw [Bool.and_eq_true]
  exact ⟨decide_eq_true rfl, decide_eq_true hi⟩
theorem okO_spec {M : Mem} {ci c : Nat} (h : okO M ci c = true) : c < M.1 ∧ nS ≤ c ∧ mSh M c = .inr ci := by
  unfold okO at h
  rw [Bool.and_eq_true, Bool.and_eq_true] at h
  refine ⟨of_decide_eq_true h.1.1, of_decide_eq_true h.1.2, ?_⟩
  have h2 := h.2
  split at h2
  · cases h2
  · next z e => rw [e, of_decide_eq_true h2]
theorem okO_of {M : Mem} {ci c : Nat} (h : c < M.1) (h1 : nS ≤ c) (e : mSh M c = .inr ci) : okO M ci c = true := by
  unfold okO
  rw [e, Bool.and_eq_true, Bool.and_eq_true]
  exact ⟨⟨decide_eq_true h, decide_eq_true h1⟩, decide_eq_true rfl⟩
-- arrays
def rI {β : Type} (M : Mem) (ty : FieldType) (c : Nat) (i : Int32) (k : Int32 → Option β) : Option β := if okA M ty c i = true then k (mI M c i.toNatClampNeg) else none
def rJ {β : Type} (M : Mem) (c : Nat) (i : Int32) (k : Int64 → Option β) : Option β := if okA M .long c i = true then k (mJ M c i.toNatClampNeg) else none
def rR {β : Type} (M : Mem) (ty : FieldType) (c : Nat) (i : Int32) (k : Nat → Option β) : Option β := if okA M ty c i = true then (match mR M c i.toNatClampNeg with | some a => k a | none => none) else none
def wI {β : Type} (M : Mem) (ty : FieldType) (c : Nat) (i : Int32) (x : Int32) (k : Mem → Option β) : Option β := if okA M ty c i = true ∧ nS ≤ c then k (stI M c i.toNatClampNeg (vp_nar ty x)) else none
def wJ {β : Type} (M : Mem) (c : Nat) (i : Int32) (x : Int64) (k : Mem → Option β) : Option β := if okA M .long c i = true ∧ nS ≤ c then k (stJ M c i.toNatClampNeg x) else none
-- fields
def gI {β : Type} (M : Mem) (ci f c : Nat) (k : Int32 → Option β) : Option β := if okO M ci c = true then k (mI M c f) else none
def gJ {β : Type} (M : Mem) (ci f c : Nat) (k : Int64 → Option β) : Option β := if okO M ci c = true then k (mJ M c f) else none
def gR {β : Type} (M : Mem) (ci f c : Nat) (k : Nat → Option β) : Option β := if okO M ci c = true then (match mR M c f with | some a => k a | none => none) else none
def pI {β : Type} (M : Mem) (ci f c : Nat) (x : Int32) (k : Mem → Option β) : Option β := if okO M ci c = true then k (stI M c f x) else none
def pZ {β : Type} (M : Mem) (ci f c : Nat) (x : Int32) (k : Mem → Option β) : Option β := if okO M ci c = true ∧ (x = 0 ∨ x = 1) then k (stI M c f x) else none
def pJ {β : Type} (M : Mem) (ci f c : Nat) (x : Int64) (k : Mem → Option β) : Option β := if okO M ci c = true then k (stJ M c f x) else none
def pR {β : Type} (M : Mem) (ci f c : Nat) (x : Nat) (k : Mem → Option β) : Option β := if okO M ci c = true then k (stR M c f (some x)) else none
theorem u2_ne {α : Type} {f : Nat → Nat → α} {c i c' : Nat} {x : α} (h : c' ≠ c) : u2 f c i x c' = f c' := by
  funext j
  unfold u2
  rw [if_neg (fun q => h q.1)]
theorem u2_eqI {f : Nat → Nat → Int32} {c i : Nat} {x : Int32} : u2 f c i x c = upd (f c) i x := by
  funext j
  unfold u2 upd
  by_cases h : j = i
  · rw [if_pos ⟨rfl, h⟩, if_pos h]
  · rw [if_neg (fun q => h q.2), if_neg h]
theorem u2_eqJ {f : Nat → Nat → Int64} {c i : Nat} {x : Int64} : u2 f c i x c = vp_updL (f c) i x := by
  funext j
  unfold u2 vp_updL
  by_cases h : j = i
  · rw [if_pos ⟨rfl, h⟩, if_pos h]
  · rw [if_neg (fun q => h q.2), if_neg h]
theorem fvals_congr {G : Gx} {M M' : Mem} {c : Nat} (h2 : mR M' c = mR M c) (h3 : mI M' c = mI M c) (h4 : mJ M' c = mJ M c) : ∀ (l : List FieldType) (b : Nat), fvals G M' c b l = fvals G M c b l
  | [], _ => rfl
  | ty :: r, b => by
    unfold fvals
    rw [fvals_congr h2 h3 h4 r (b + 1)]
    congr 1
    unfold fval
    rw [h2, h3, h4]
theorem cont_congr {G : Gx} {M M' : Mem} {c : Nat} (h1 : mSh M' c = mSh M c) (h2 : mR M' c = mR M c) (h3 : mI M' c = mI M c) (h4 : mJ M' c = mJ M c) : cont G M' c = cont G M c := by
  unfold cont
  rw [h1]
  split
  · unfold rowOf
    rw [h2, h3, h4]
  · rw [fvals_congr h2 h3 h4]
theorem fvals_get {G : Gx} {M : Mem} {c : Nat} : ∀ (l : List FieldType) (b k : Nat), (fvals G M c b l)[k]? = l[k]?.map (fun ty => fval G M c (b + k) ty)
  | [], _, k => by simp [fvals]
  | ty :: r, b, 0 => by simp [fvals]
  | ty :: r, b, k + 1 => by
    have h := fvals_get (G := G) (M := M) (c := c) r (b + 1) k
    simp only [fvals, List.getElem?_cons_succ]
    rw [h, show b + 1 + k = b + (k + 1) by omega]
theorem fvals_len {G : Gx} {M : Mem} {c : Nat} : ∀ (l : List FieldType) (b : Nat), (fvals G M c b l).length = l.length
  | [], _ => rfl
  | _ :: r, b => by simp [fvals, fvals_len r (b + 1)]
theorem fvals_set {G : Gx} {M M' : Mem} {c f : Nat} {l : List FieldType} {ty : FieldType} {v : Value} (hf : l[f]? = some ty) (hv : fval G M' c f ty = v) (ho : ∀ k t, k ≠ f → fval G M' c k t = fval G M c k t) : fvals G M' c 0 l = (fvals G M c 0 l).set f v := by
  apply List.ext_getElem?
  intro k
  rw [fvals_get, List.getElem?_set]
  by_cases h : f = k
  · subst h
    have hlt : f < l.length := (List.getElem?_eq_some_iff.mp hf).1
    rw [if_pos rfl, fvals_len, if_pos hlt, hf]
    simp only [Option.map_some, Nat.zero_add]
    rw [hv]
  · rw [if_neg h, fvals_get]
    cases l[k]? with
    | none => rfl
    | some t => simp only [Option.map_some, Nat.zero_add]; rw [ho k t (Ne.symm h)]
theorem adr_ne {G : Gx} {c c' : Nat} (hs : ∀ c, c < nS → G.2.2.2 c < G.2.2.1) (h : nS ≤ c) (hn : c' ≠ c) : adr G c' ≠ adr G c := by
  unfold adr
  rw [if_neg (Nat.not_lt.mpr h)]
  by_cases q : c' < nS
  · rw [if_pos q]
    have := hs c' q
    omega
  · rw [if_neg q]
    omega
theorem adr_rA {G : Gx} {c : Nat} (h : nS ≤ c) : rA G (adr G c) := by
  unfold rA adr
  rw [if_neg (Nat.not_lt.mpr h)]
  omega
theorem hold_set {G : Gx} {M M' : Mem} {H H1 : Heap} {c : Nat} (hH : Hold G M H) (hs : ∀ c, c < nS → G.2.2.2 c < G.2.2.1) (h : nS ≤ c) (e : M'.1 = M.1) (z : H1.size = H.size) (oq : ∀ q, q ≠ adr G c → H1[q]? = H[q]?) (ho : ∀ c', c' ≠ c → cont G M' c' = cont G M c') (hc : va_at G.1 vwCl (adr G c, cont G M' c) H1) : Hold G M' H1 := by
  refine ⟨by rw [e]; exact hH.1, by rw [z, e]; exact hH.2.1, fun c' hc' => ?_⟩
  by_cases q : c' = c
  · subst q; exact hc
  · rw [ho c' q]
    exact (hH.2.2 c' (by rw [← e]; exact hc')).kept (oq _ (adr_ne hs h q))
theorem va_P1 {D : va_G} {cl : List vw_C} {q : Nat × va_E} {H : Heap} (h : va_at D cl q H) : va_P D cl [q] H := by
  intro k p hp
  have hk : k < 1 := (List.getElem?_eq_some_iff.mp hp).1
  rw [show k = 0 by omega] at hp
  cases hp
  exact h
theorem hold_arr {G : Gx} {M : Mem} {H : Heap} {c n : Nat} {ty : FieldType} (hH : Hold G M H) (hc : c < M.1) (e : mSh M c = .inl (ty, n)) : va_at G.1 vwCl (adr G c, .inl (G.2.1 ty, n, rowOf G M c ty)) H := by
  have h := hH.2.2 c hc
  unfold cont at h
  rw [e] at h
  exact h
theorem hold_obj {G : Gx} {M : Mem} {H : Heap} {c ci : Nat} (hH : Hold G M H) (hc : c < M.1) (e : mSh M c = .inr ci) : va_at G.1 vwCl (adr G c, .inr (ci, fvals G M c 0 (cfT ci))) H := by
  have h := hH.2.2 c hc
  unfold cont at h
  rw [e] at h
  exact h
end
section
section CoreD
variable {G : Gx} {l : Launch} {cc : ByteArray} {nL : Nat} {own : String} {ret : Option FieldType} {nm : String} {fr lc : Nat} {α : Type} {Q : Cx → Mem → α → Mem → State → Prop} {M M' : Mem} {pc pc' : Nat} {lv lv' : List (Nat × Value)} {st st' : List Value}

theorem J_iald {k : Int32 → Option (α × Mem)} {c : Nat} {i : Int32} (hdg : decode cc pc = .ok (.iaload, 1)) (k1 : J G l cc nL own ret nm fr lc Q (pc + 1) lv (.int (mI M c i.toNatClampNeg) :: st) M (k (mI M c i.toNatClampNeg))) : J G l cc nL own ret nm fr lc Q pc lv (.int i :: .ref (adr G c) :: st) M (rI M .int c i k) := by
  unfold rI
  refine J_ite (fun h => ?_) (fun _ => J_none)
  obtain ⟨hc, n, e, hi⟩ := okA_spec h
  exact J_stepH (fun x A H _ _ _ _ _ hH _ _ w => va_iald A.1 A.2.1 A.2.2.2.2.2.2.2.2.1 (va_P1 (hold_arr hH hc e)) 0 0 rfl rfl hi hdg w) k1
theorem J_bald {k : Int32 → Option (α × Mem)} {c : Nat} {i : Int32} (hdg : decode cc pc = .ok (.baload, 1)) (k1 : J G l cc nL own ret nm fr lc Q (pc + 1) lv (.int (mI M c i.toNatClampNeg) :: st) M (k (mI M c i.toNatClampNeg))) : J G l cc nL own ret nm fr lc Q pc lv (.int i :: .ref (adr G c) :: st) M (rI M .byte c i k) := by
  unfold rI
  refine J_ite (fun h => ?_) (fun _ => J_none)
  obtain ⟨hc, n, e, hi⟩ := okA_spec h
  exact J_stepH (fun x A H _ _ _ _ _ hH _ _ w => va_bald A.1 A.2.1 A.2.2.2.2.2.2.2.2.1 (va_P1 (hold_arr hH hc e)) 0 1 rfl rfl hi hdg w) k1
theorem J_zald {k : Int32 → Option (α × Mem)} {c : Nat} {i : Int32} (hdg : decode cc pc = .ok (.baload, 1)) (k1 : J G l cc nL own ret nm fr lc Q (pc + 1) lv (.int (mI M c i.toNatClampNeg) :: st) M (k (mI M c i.toNatClampNeg))) : J G l cc nL own ret nm fr lc Q pc lv (.int i :: .ref (adr G c) :: st) M (rI M .boolean c i k) := by
  unfold rI
  refine J_ite (fun h => ?_) (fun _ => J_none)
  obtain ⟨hc, n, e, hi⟩ := okA_spec h
  exact J_stepH (fun x A H _ _ _ _ _ hH _ _ w => va_zald A.1 A.2.1 A.2.2.2.2.2.2.2.2.1 (va_P1 (hold_arr hH hc e)) 0 2 rfl rfl hi hdg w) k1
theorem J_lald {k : Int64 → Option (α × Mem)} {c : Nat} {i : Int32} (hdg : decode cc pc = .ok (.laload, 1)) (k1 : J G l cc nL own ret nm fr lc Q (pc + 1) lv (.long (mJ M c i.toNatClampNeg) :: st) M (k (mJ M c i.toNatClampNeg))) : J G l cc nL own ret nm fr lc Q pc lv (.int i :: .ref (adr G c) :: st) M (rJ M c i k) := by
  unfold rJ
  refine J_ite (fun h => ?_) (fun _ => J_none)
  obtain ⟨hc, n, e, hi⟩ := okA_spec h
  exact J_stepH (fun x A H _ _ _ _ _ hH _ _ w => va_lald A.1 A.2.1 A.2.2.2.2.2.2.2.2.1 (va_P1 (hold_arr hH hc e)) 0 3 rfl rfl hi hdg w) k1
theorem J_aaldI {k : Nat → Option (α × Mem)} {c : Nat} {i : Int32} (hdg : decode cc pc = .ok (.aaload, 1)) (k1 : ∀ a, J G l cc nL own ret nm fr lc Q (pc + 1) lv (.ref (adr G a) :: st) M (k a)) : J G l cc nL own ret nm fr lc Q pc lv (.int i :: .ref (adr G c) :: st) M (rR M (.array .int) c i k) := by
  unfold rR
  refine J_ite (fun h => ?_) (fun _ => J_none)
  obtain ⟨hc, n, e, hi⟩ := okA_spec h
  have hlt : i.toNatClampNeg < n := Nat.not_le.mp fun q => hi (Or.inr q)
  cases hm : mR M c i.toNatClampNeg with
  | none => exact J_none
  | some a =>
    refine J_stepH (fun x A H _ _ _ _ _ hH _ _ w => ?_) (k1 a)
    have hP := va_P1 (hold_arr hH hc e)
    refine W.aald (v := .ref (adr G a)) (ty := (.array .int)) A.1 A.2.1 (hP 0 _ rfl) ((A.2.2.2.2.2.2.2.2.1.2 4 _ rfl).1 n (fun j => va_rf ((mR M c j).map (adr G)))) rfl (fun q => by cases q) (by show ¬ (i < 0 ∨ (arrV _ _ _).slots.size ≤ _); rw [arrV_size]; exact hi) (by show (arrV _ _ _).slots[_]? = _; rw [arrV_read _ _ hlt]; show some (va_rf (Option.map (adr G) (mR M c i.toNatClampNeg))) = _; rw [hm]; rfl) rfl rfl hdg w
theorem J_aaldO {k : Nat → Option (α × Mem)} {c : Nat} {i : Int32} (hdg : decode cc pc = .ok (.aaload, 1)) (k1 : ∀ a, J G l cc nL own ret nm fr lc Q (pc + 1) lv (.ref (adr G a) :: st) M (k a)) : J G l cc nL own ret nm fr lc Q pc lv (.int i :: .ref (adr G c) :: st) M (rR M (.object "ChainBooks$Head") c i k) := by
  unfold rR
  refine J_ite (fun h => ?_) (fun _ => J_none)
  obtain ⟨hc, n, e, hi⟩ := okA_spec h
  have hlt : i.toNatClampNeg < n := Nat.not_le.mp fun q => hi (Or.inr q)
  cases hm : mR M c i.toNatClampNeg with
  | none => exact J_none
  | some a =>
    refine J_stepH (fun x A H _ _ _ _ _ hH _ _ w => ?_) (k1 a)
    have hP := va_P1 (hold_arr hH hc e)
    refine W.aald (v := .ref (adr G a)) (ty := (.object "ChainBooks$Head")) A.1 A.2.1 (hP 0 _ rfl) ((A.2.2.2.2.2.2.2.2.1.2 5 _ rfl).1 n (fun j => va_rf ((mR M c j).map (adr G)))) rfl (fun q => by cases q) (by show ¬ (i < 0 ∨ (arrV _ _ _).slots.size ≤ _); rw [arrV_size]; exact hi) (by show (arrV _ _ _).slots[_]? = _; rw [arrV_read _ _ hlt]; show some (va_rf (Option.map (adr G) (mR M c i.toNatClampNeg))) = _; rw [hm]; rfl) rfl rfl hdg w
theorem J_iast {k : Mem → Option (α × Mem)} {c : Nat} {i v : Int32} (hdg : decode cc pc = .ok (.iastore, 1)) (k1 : J G l cc nL own ret nm fr lc Q (pc + 1) lv st (stI M c i.toNatClampNeg (vp_nar .int v)) (k (stI M c i.toNatClampNeg (vp_nar .int v)))) : J G l cc nL own ret nm fr lc Q pc lv (.int v :: .int i :: .ref (adr G c) :: st) M (wI M .int c i v k) := by
  unfold wI
  refine J_ite (fun h => ?_) (fun _ => J_none)
  obtain ⟨hc, n, e, hi⟩ := okA_spec h.1
  refine J_stepS (M' := stI M c i.toNatClampNeg (vp_nar .int v)) rfl rfl (fun x A H locs ls _ _ _ hH hS _ w => ?_) k1
  have ha := hold_arr hH hc e
  refine W.iast A.1 A.2.1 ha ((A.2.2.2.2.2.2.2.2.1.2 0 _ rfl).1 n (fun j => .int (mI M c j))) (fun q => by cases q) (by show ¬ (i < 0 ∨ (arrV _ _ _).slots.size ≤ _); rw [arrV_size]; exact hi) rfl rfl hdg fun H1 e1 z oq => ?_
  refine w H1 _ (hold_set hH A.2.2.2.2.2.2.2.2.2.1 h.2 rfl z oq (fun c' q => cont_congr rfl rfl (u2_ne q) rfl) ?_) (hS.put z oq (adr_rA h.2))
  have hcn : cont G (stI M c i.toNatClampNeg (vp_nar .int v)) c = .inl (G.2.1 .int, n, .inl (upd (mI M c) i.toNatClampNeg (vp_nar .int v))) := by
    unfold cont
    rw [show mSh (stI M c i.toNatClampNeg (vp_nar .int v)) c = .inl (.int, n) from e]
    show (Sum.inl (G.2.1 .int, n, .inl (u2 (mI M) c i.toNatClampNeg (vp_nar .int v) c)) : va_E) = _
    rw [u2_eqI]
  rw [hcn]
  show H1[adr G c]? = some (vp_cell _ _)
  rw [e1]
  show some (Cell.setSlot (vp_cell _ (n, .inl (mI M c))) _ _) = _
  rw [vp_cell_i, vp_cell_i, arrV_store]
  congr 2
  funext q
  by_cases hq : q = i.toNatClampNeg
  · subst hq
    simp [updV, upd, vp_nar, narrow]
  · simp [updV, upd, hq]
theorem J_bast {k : Mem → Option (α × Mem)} {c : Nat} {i v : Int32} (hdg : decode cc pc = .ok (.bastore, 1)) (k1 : J G l cc nL own ret nm fr lc Q (pc + 1) lv st (stI M c i.toNatClampNeg (vp_nar .byte v)) (k (stI M c i.toNatClampNeg (vp_nar .byte v)))) : J G l cc nL own ret nm fr lc Q pc lv (.int v :: .int i :: .ref (adr G c) :: st) M (wI M .byte c i v k) := by
  unfold wI
  refine J_ite (fun h => ?_) (fun _ => J_none)
  obtain ⟨hc, n, e, hi⟩ := okA_spec h.1
  refine J_stepS (M' := stI M c i.toNatClampNeg (vp_nar .byte v)) rfl rfl (fun x A H locs ls _ _ _ hH hS _ w => ?_) k1
  have ha := hold_arr hH hc e
  refine W.bast A.1 A.2.1 ha ((A.2.2.2.2.2.2.2.2.1.2 1 _ rfl).1 n (fun j => .int (mI M c j))) (fun q => by cases q) (by show ¬ (i < 0 ∨ (arrV _ _ _).slots.size ≤ _); rw [arrV_size]; exact hi) rfl rfl hdg fun H1 e1 z oq => ?_
  refine w H1 _ (hold_set hH A.2.2.2.2.2.2.2.2.2.1 h.2 rfl z oq (fun c' q => cont_congr rfl rfl (u2_ne q) rfl) ?_) (hS.put z oq (adr_rA h.2))
  have hcn : cont G (stI M c i.toNatClampNeg (vp_nar .byte v)) c = .inl (G.2.1 .byte, n, .inl (upd (mI M c) i.toNatClampNeg (vp_nar .byte v))) := by
    unfold cont
    rw [show mSh (stI M c i.toNatClampNeg (vp_nar .byte v)) c = .inl (.byte, n) from e]
    show (Sum.inl (G.2.1 .byte, n, .inl (u2 (mI M) c i.toNatClampNeg (vp_nar .byte v) c)) : va_E) = _
    rw [u2_eqI]
  rw [hcn]
  show H1[adr G c]? = some (vp_cell _ _)
  rw [e1]
  show some (Cell.setSlot (vp_cell _ (n, .inl (mI M c))) _ _) = _
  rw [vp_cell_i, vp_cell_i, arrV_store]
  congr 2
  funext q
  by_cases hq : q = i.toNatClampNeg
  · subst hq
    simp [updV, upd, vp_nar, narrow]
  · simp [updV, upd, hq]
theorem J_zast {k : Mem → Option (α × Mem)} {c : Nat} {i v : Int32} (hdg : decode cc pc = .ok (.bastore, 1)) (k1 : J G l cc nL own ret nm fr lc Q (pc + 1) lv st (stI M c i.toNatClampNeg (vp_nar .boolean v)) (k (stI M c i.toNatClampNeg (vp_nar .boolean v)))) : J G l cc nL own ret nm fr lc Q pc lv (.int v :: .int i :: .ref (adr G c) :: st) M (wI M .boolean c i v k) := by
  unfold wI
  refine J_ite (fun h => ?_) (fun _ => J_none)
  obtain ⟨hc, n, e, hi⟩ := okA_spec h.1
  refine J_stepS (M' := stI M c i.toNatClampNeg (vp_nar .boolean v)) rfl rfl (fun x A H locs ls _ _ _ hH hS _ w => ?_) k1
  have ha := hold_arr hH hc e
  refine W.zast A.1 A.2.1 ha ((A.2.2.2.2.2.2.2.2.1.2 2 _ rfl).1 n (fun j => .int (mI M c j))) (fun q => by cases q) (by show ¬ (i < 0 ∨ (arrV _ _ _).slots.size ≤ _); rw [arrV_size]; exact hi) rfl rfl hdg fun H1 e1 z oq => ?_
  refine w H1 _ (hold_set hH A.2.2.2.2.2.2.2.2.2.1 h.2 rfl z oq (fun c' q => cont_congr rfl rfl (u2_ne q) rfl) ?_) (hS.put z oq (adr_rA h.2))
  have hcn : cont G (stI M c i.toNatClampNeg (vp_nar .boolean v)) c = .inl (G.2.1 .boolean, n, .inl (upd (mI M c) i.toNatClampNeg (vp_nar .boolean v))) := by
    unfold cont
    rw [show mSh (stI M c i.toNatClampNeg (vp_nar .boolean v)) c = .inl (.boolean, n) from e]
    show (Sum.inl (G.2.1 .boolean, n, .inl (u2 (mI M) c i.toNatClampNeg (vp_nar .boolean v) c)) : va_E) = _
    rw [u2_eqI]
  rw [hcn]
  show H1[adr G c]? = some (vp_cell _ _)
  rw [e1]
  show some (Cell.setSlot (vp_cell _ (n, .inl (mI M c))) _ _) = _
  rw [vp_cell_i, vp_cell_i, arrV_store]
  congr 2
  funext q
  by_cases hq : q = i.toNatClampNeg
  · subst hq
    simp [updV, upd, vp_nar, narrow]
  · simp [updV, upd, hq]
theorem J_last {k : Mem → Option (α × Mem)} {c : Nat} {i : Int32} {v : Int64} (hdg : decode cc pc = .ok (.lastore, 1)) (k1 : J G l cc nL own ret nm fr lc Q (pc + 1) lv st (stJ M c i.toNatClampNeg v) (k (stJ M c i.toNatClampNeg v))) : J G l cc nL own ret nm fr lc Q pc lv (.long v :: .int i :: .ref (adr G c) :: st) M (wJ M c i v k) := by
  unfold wJ
  refine J_ite (fun h => ?_) (fun _ => J_none)
  obtain ⟨hc, n, e, hi⟩ := okA_spec h.1
  refine J_stepS (M' := stJ M c i.toNatClampNeg v) rfl rfl (fun x A H locs ls _ _ _ hH hS _ w => ?_) k1
  have ha := hold_arr hH hc e
  refine W.last A.1 A.2.1 ha ((A.2.2.2.2.2.2.2.2.1.2 3 _ rfl).1 n (fun j => .long (mJ M c j))) (fun q => by cases q) (by show ¬ (i < 0 ∨ (arrV _ _ _).slots.size ≤ _); rw [arrV_size]; exact hi) rfl rfl hdg fun H1 e1 z oq => ?_
  refine w H1 _ (hold_set hH A.2.2.2.2.2.2.2.2.2.1 h.2 rfl z oq (fun c' q => cont_congr rfl rfl rfl (u2_ne q)) ?_) (hS.put z oq (adr_rA h.2))
  have hcn : cont G (stJ M c i.toNatClampNeg v) c = .inl (G.2.1 .long, n, .inr (.inl (vp_updL (mJ M c) i.toNatClampNeg v))) := by
    unfold cont
    rw [show mSh (stJ M c i.toNatClampNeg v) c = .inl (.long, n) from e]
    show (Sum.inl (G.2.1 .long, n, .inr (.inl (u2 (mJ M) c i.toNatClampNeg v c))) : va_E) = _
    rw [u2_eqJ]
  rw [hcn]
  show H1[adr G c]? = some (vp_cell _ _)
  rw [e1]
  show some (Cell.setSlot (vp_cell _ (n, .inr (.inl (mJ M c)))) _ _) = _
  rw [vp_cell_l, vp_cell_l, arrV_store]
  congr 2
  funext q
  by_cases hq : q = i.toNatClampNeg
  · subst hq
    simp [updV, vp_updL]
  · simp [updV, vp_updL, hq]
end CoreD
end
section
theorem lw_good : ∀ w ∈ lwT, goodWord w = true := fun _ h => (List.mem_filter.mp h).2
theorem good_tbl {w : Cond} (h : w ∈ lwT) : GoodIn lwT (w :: lwT) := fun z hz => by
  rcases List.mem_cons.mp hz with rfl | hz
  · exact ⟨h, good_of_word (lw_good _ h)⟩
  · exact ⟨hz, good_of_word (lw_good _ hz)⟩
/-- a field: its class's number, its place, its type, final or not, its names -/
def FdOk (ci f : Nat) (ty : FieldType) (fin : Bool) (cn n d : String) : Prop := ∃ (C : String) (T : u_T) (N : Nat) (ty0 : Nat → FieldType), vwCl[ci]? = some (C, T, N) ∧ (∀ w ∈ u_ws C T N, w ∈ lwT) ∧ f < N ∧ (cfT ci)[f]? = some ty ∧ T f = (cn, n, d, fin) ∧ (∀ k, k < N → parseFieldDescriptor (T k).2.2.1 = some (ty0 k)) ∧ (∀ a, a < N → ∀ b, b < N → a ≠ b → (T a).2.1 ≠ (T b).2.1) ∧ parseFieldDescriptor d = some ty
theorem fval_I {G : Gx} {M : Mem} {c f j : Nat} {v : Int32} {t : FieldType} (hj : j ≠ f) : fval G (stI M c f v) c j t = fval G M c j t := by
  have h : mI (stI M c f v) c j = mI M c j := by
    show u2 (mI M) c f v c j = _
    unfold u2; rw [if_neg (fun q => hj q.2)]
  cases t <;> first | rfl | exact congrArg Value.int h
theorem fval_J {G : Gx} {M : Mem} {c f j : Nat} {v : Int64} {t : FieldType} (hj : j ≠ f) : fval G (stJ M c f v) c j t = fval G M c j t := by
  have h : mJ (stJ M c f v) c j = mJ M c j := by
    show u2 (mJ M) c f v c j = _
    unfold u2; rw [if_neg (fun q => hj q.2)]
  cases t <;> first | rfl | exact congrArg Value.long h
theorem fval_R {G : Gx} {M : Mem} {c f j : Nat} {v : Option Nat} {t : FieldType} (hj : j ≠ f) : fval G (stR M c f v) c j t = fval G M c j t := by
  have h : mR (stR M c f v) c j = mR M c j := by
    show u2 (mR M) c f v c j = _
    unfold u2; rw [if_neg (fun q => hj q.2)]
  cases t <;> first | rfl | exact congrArg (fun z => va_rf (z.map (adr G))) h
section CoreE
variable {G : Gx} {l : Launch} {cc : ByteArray} {nL : Nat} {own : String} {ret : Option FieldType} {nm : String} {fr lc : Nat} {α : Type} {Q : Cx → Mem → α → Mem → State → Prop} {M M' : Mem} {pc pc' : Nat} {lv lv' : List (Nat × Value)} {st st' : List Value}
theorem getf_core {x : Cx} (A : Act G x cc nL own ret nm) {ci f idx c : Nat} {ty : FieldType} {fin : Bool} {cn n d : String} (F : FdOk ci f ty fin cn n d) (hw : Cond.fieldLink own idx cn n d ∈ lwT) (hdg : decode cc pc = .ok (.getfield idx, 3)) (hc : c < M.1) (e : mSh M c = .inr ci) {H : Heap} {locs : List Loc} {ls : Array Slot} {cells slots : Nat} {Q' : State → Prop} (hH : Hold G M H) (w : WW x H locs cells slots Q' (F0 (xm x) (pc + 3) ls (fval G M c f ty :: st))) : WW x H locs cells slots Q' (F0 (xm x) pc ls (.ref (adr G c) :: st)) := by
  obtain ⟨C, T, N, ty0, h1, h2, h3, h4, h5, h6, h7, h8⟩ := F
  refine va_get (D := G.1) (ci := ci) (v := fval G M c f ty) (C := C) (T := T) (N := N) (ref := cn) (index := idx) A.1 A.2.1 A.2.2.2.2.1 h2 A.2.2.2.1 A.2.2.2.2.2.2.2.2.1 (va_P1 (hold_obj hH hc e)) 0 rfl h1 f h3 (by rw [h5]; exact A.2.2.2.2.1 _ hw) (fun z hz => by rw [h5] at hz ⊢; exact hz) ?_ hdg w
  rw [fvals_get, h4, Nat.zero_add]
  rfl
theorem J_getI {k : Int32 → Option (α × Mem)} {ci f idx c : Nat} {ty : FieldType} {fin : Bool} {cn n d : String} (F : FdOk ci f ty fin cn n d) (hw : Cond.fieldLink own idx cn n d ∈ lwT) (hv : fval G M c f ty = .int (mI M c f)) (hdg : decode cc pc = .ok (.getfield idx, 3)) (k1 : J G l cc nL own ret nm fr lc Q (pc + 3) lv (.int (mI M c f) :: st) M (k (mI M c f))) : J G l cc nL own ret nm fr lc Q pc lv (.ref (adr G c) :: st) M (gI M ci f c k) := by
  unfold gI
  refine J_ite (fun h => ?_) (fun _ => J_none)
  obtain ⟨hc, -, e⟩ := okO_spec h
  exact J_stepH (fun x A H _ _ _ _ _ hH _ _ w => getf_core A F hw hdg hc e hH (by rw [hv]; exact w)) k1
theorem J_getJ {k : Int64 → Option (α × Mem)} {ci f idx c : Nat} {ty : FieldType} {fin : Bool} {cn n d : String} (F : FdOk ci f ty fin cn n d) (hw : Cond.fieldLink own idx cn n d ∈ lwT) (hv : fval G M c f ty = .long (mJ M c f)) (hdg : decode cc pc = .ok (.getfield idx, 3)) (k1 : J G l cc nL own ret nm fr lc Q (pc + 3) lv (.long (mJ M c f) :: st) M (k (mJ M c f))) : J G l cc nL own ret nm fr lc Q pc lv (.ref (adr G c) :: st) M (gJ M ci f c k) := by
  unfold gJ
  refine J_ite (fun h => ?_) (fun _ => J_none)
  obtain ⟨hc, -, e⟩ := okO_spec h
  exact J_stepH (fun x A H _ _ _ _ _ hH _ _ w => getf_core A F hw hdg hc e hH (by rw [hv]; exact w)) k1
theorem J_getR {k : Nat → Option (α × Mem)} {ci f idx c : Nat} {ty : FieldType} {fin : Bool} {cn n d : String} (F : FdOk ci f ty fin cn n d) (hw : Cond.fieldLink own idx cn n d ∈ lwT) (hv : fval G M c f ty = va_rf ((mR M c f).map (adr G))) (hdg : decode cc pc = .ok (.getfield idx, 3)) (k1 : ∀ a, J G l cc nL own ret nm fr lc Q (pc + 3) lv (.ref (adr G a) :: st) M (k a)) : J G l cc nL own ret nm fr lc Q pc lv (.ref (adr G c) :: st) M (gR M ci f c k) := by
  unfold gR
  refine J_ite (fun h => ?_) (fun _ => J_none)
  obtain ⟨hc, -, e⟩ := okO_spec h
  cases hm : mR M c f with
  | none => exact J_none
  | some a =>
    refine J_stepH (fun x A H _ _ _ _ _ hH _ _ w => getf_core A F hw hdg hc e hH ?_) (k1 a)
    rw [hv, hm]
    exact w
theorem putf_core {x : Cx} (A : Act G x cc nL own ret nm) {ci f idx c : Nat} {ty : FieldType} {cn n d : String} {v : Value} (F : FdOk ci f ty false cn n d) (hw : Cond.fieldLink own idx cn n d ∈ lwT) (hdg : decode cc pc = .ok (.putfield idx, 3)) (hc : c < M.1) (hns : nS ≤ c) (e : mSh M c = .inr ci) (hn : narrow ty v = v) (hfit : fits ty v = true)
    (e1 : M'.1 = M.1) (e2 : mSh M' = mSh M) (hv : fval G M' c f ty = v) (hof : ∀ k t, k ≠ f → fval G M' c k t = fval G M c k t) (ho : ∀ c', c' ≠ c → cont G M' c' = cont G M c') {H : Heap} {locs : List Loc} {ls : Array Slot} {cells slots : Nat} {Q' : State → Prop} (hH : Hold G M H) (hS : va_S (rA G) (xs x).heap H locs)
    (w : ∀ (H1 : Heap) (locs1 : List Loc), Hold G M' H1 → va_S (rA G) (xs x).heap H1 locs1 → WW x H1 locs1 cells slots Q' (F0 (xm x) (pc + 3) ls st)) : WW x H locs cells slots Q' (F0 (xm x) pc ls (v :: .ref (adr G c) :: st)) := by
  obtain ⟨C, T, N, ty0, h1, h2, h3, h4, h5, h6, h7, h8⟩ := F
  have hK := A.2.2.2.2.2.2.2.2.1
  have hts := A.2.2.2.2.1
  have hap := va_apart (own := own) hts h2 ty0 h6 h7 hK h1
  obtain ⟨r, g1, cell, q1, q2, q3, q4⟩ := hold_obj hH hc e
  have hr : r = (C, T, N) := Option.some.inj (g1.symm.trans h1)
  subst hr
  obtain ⟨hSl, hfc, kC, hkC, hkind⟩ := hK.1 ci _ h1
  obtain ⟨cf, kf, fi, fd, hi, hsl⟩ := hSl f h3
  have hlay := hts _ (h2 _ (u_in_lay h3))
  unfold u_lay at hlay
  rw [if_neg (by rw [h5]; exact Bool.false_ne_true)] at hlay
  have hst := (u_facts hfc hkC (u_lays hts h2 h3) hi).1
  have h9 := u_store hfc hkC hkind hlay hi (by rw [h5]; exact h8) hn hfit
  refine W.putK A.1 A.2.1 (own := own) (ref := cn) (name := n) (desc := d) (index := idx) (f := fd) ⟨A.2.2.2.1, hts _ hw, ⟨_, _, _, (by have hi : (xs x).fieldFound? (T f).1 (T f).2.1 (T f).2.2.1 = _ := hi; rw [h5] at hi; exact hi)⟩, hst⟩ (by rw [q2]; exact h9) q1 q3 (by rw [hsl]; exact k2_hasslot (q4 f h3)) rfl rfl hdg fun H1 i1 i2 i3 => ?_
  rw [hsl] at i1 ⊢
  refine w H1 _ (hold_set hH A.2.2.2.2.2.2.2.2.2.1 hns e1 i2 i3 ho ?_) (hS.put i2 i3 (adr_rA hns))
  have hcn : cont G M' c = .inr (ci, (fvals G M c 0 (cfT ci)).set f v) := by
    unfold cont
    rw [e2, e]
    show (Sum.inr (ci, fvals G M' c 0 (cfT ci)) : va_E) = _
    rw [fvals_set h4 hv hof]
  rw [hcn]
  exact ⟨_, h1, t_OB.to (V := updV (vp_V (fvals G M c 0 (cfT ci))) f v) ⟨_, i1, q2, q3, t_set q4 hap h3 v⟩ (fun j _ => vp_updV_set (by rw [fvals_len]; exact (List.getElem?_eq_some_iff.mp h4).1) v j)⟩
theorem J_putI {k : Mem → Option (α × Mem)} {ci f idx c : Nat} {cn n d : String} {v : Int32} (F : FdOk ci f .int false cn n d) (hw : Cond.fieldLink own idx cn n d ∈ lwT) (hdg : decode cc pc = .ok (.putfield idx, 3)) (k1 : J G l cc nL own ret nm fr lc Q (pc + 3) lv st (stI M c f v) (k (stI M c f v))) : J G l cc nL own ret nm fr lc Q pc lv (.int v :: .ref (adr G c) :: st) M (pI M ci f c v k) := by
  unfold pI
  refine J_ite (fun h => ?_) (fun _ => J_none)
  obtain ⟨hc, hns, e⟩ := okO_spec h
  refine J_stepS (M' := stI M c f v) rfl rfl (fun x A H _ _ _ _ _ hH hS _ w => putf_core (M' := stI M c f v) A F hw hdg hc hns e (vp_nar_int v) rfl rfl rfl ?_ ?_ (fun c' q => cont_congr rfl rfl (u2_ne q) rfl) hH hS w) k1
  · show Value.int (u2 (mI M) c f v c f) = _
    unfold u2; rw [if_pos ⟨rfl, rfl⟩]
  · exact fun j t hj => fval_I hj
theorem J_putZ {k : Mem → Option (α × Mem)} {ci f idx c : Nat} {cn n d : String} {v : Int32} (F : FdOk ci f .boolean false cn n d) (hw : Cond.fieldLink own idx cn n d ∈ lwT) (hdg : decode cc pc = .ok (.putfield idx, 3)) (k1 : J G l cc nL own ret nm fr lc Q (pc + 3) lv st (stI M c f v) (k (stI M c f v))) : J G l cc nL own ret nm fr lc Q pc lv (.int v :: .ref (adr G c) :: st) M (pZ M ci f c v k) := by
  unfold pZ
  refine J_ite (fun h => ?_) (fun _ => J_none)
  obtain ⟨hc, hns, e⟩ := okO_spec h.1
  refine J_stepS (M' := stI M c f v) rfl rfl (fun x A H _ _ _ _ _ hH hS _ w => putf_core (M' := stI M c f v) A F hw hdg hc hns e (by rcases h.2 with rfl | rfl <;> decide) (by rcases h.2 with rfl | rfl <;> decide) rfl rfl ?_ ?_ (fun c' q => cont_congr rfl rfl (u2_ne q) rfl) hH hS w) k1
  · show Value.int (u2 (mI M) c f v c f) = _
    unfold u2; rw [if_pos ⟨rfl, rfl⟩]
  · exact fun j t hj => fval_I hj
theorem J_putJ {k : Mem → Option (α × Mem)} {ci f idx c : Nat} {cn n d : String} {v : Int64} (F : FdOk ci f .long false cn n d) (hw : Cond.fieldLink own idx cn n d ∈ lwT) (hdg : decode cc pc = .ok (.putfield idx, 3)) (k1 : J G l cc nL own ret nm fr lc Q (pc + 3) lv st (stJ M c f v) (k (stJ M c f v))) : J G l cc nL own ret nm fr lc Q pc lv (.long v :: .ref (adr G c) :: st) M (pJ M ci f c v k) := by
  unfold pJ
  refine J_ite (fun h => ?_) (fun _ => J_none)
  obtain ⟨hc, hns, e⟩ := okO_spec h
  refine J_stepS (M' := stJ M c f v) rfl rfl (fun x A H _ _ _ _ _ hH hS _ w => putf_core (M' := stJ M c f v) A F hw hdg hc hns e rfl rfl rfl rfl ?_ ?_ (fun c' q => cont_congr rfl rfl rfl (u2_ne q)) hH hS w) k1
  · show Value.long (u2 (mJ M) c f v c f) = _
    unfold u2; rw [if_pos ⟨rfl, rfl⟩]
  · exact fun j t hj => fval_J hj
end CoreE
end
section
/-- behind a method: what it answers, the memory, the tables -/
def QC (G : Gx) {α : Type} (rv : α → Option Value) (r : α) (Me : Mem) : Array Value → State → Outcome → State → Prop := fun _ st o t => o = .returned (rv r) ∧ Hold G Me t.heap ∧ Kn G t ∧ va_F (rA G) st t
/-- a method's contract: from the memory M, if k tells an answer and a memory, the method comes to them -/
def Con (G : Gx) (l : Launch) (y : MethodName) (cc : ByteArray) (maxL : Nat) (ret : Option FieldType) (fr lc : Nat) {α : Type} (rv : α → Option Value) (args : List Value) (M : Mem) (k : Option (α × Mem)) : Prop :=
  ∀ r Me, k = some (r, Me) → (M.1 ≤ Me.1 ∧ M.2.1 ≤ Me.2.1) ∧ Met l y (.code y cc maxL ret :: lwT) { frames := fr, cells := Me.1 - M.1, slots := Me.2.1 - M.2.1, locals := lc } (va_Pc args (fun U => Hold G M U.heap ∧ Kn G U)) (QC G rv r Me) (Me.1 - M.1) (Me.2.1 - M.2.1) (rA G)
/-- the end of a method's walk -/
def QM (G : Gx) {α : Type} (rv : α → Option Value) (x : Cx) (M0 : Mem) (r : α) (Me : Mem) : State → Prop := MQ (xb x) (QC G rv r Me) (xa x) (xs x) (Me.1 - M0.1) (Me.2.1 - M0.2.1) (rA G)
def bd {α β : Type} (c : Option (α × Mem)) (k : α → Mem → Option β) : Option β := match c with
  | some (r, M) => k r M
  | none => none
def cV {α β : Type} (M : Mem) (ci b : Nat) (c : Option (α × Mem)) (k : α → Mem → Option β) : Option β := if okO M ci b = true then bd c k else none
def retZ {β : Type} (v : Int32) (k : Option β) : Option β := if v = 0 ∨ v = 1 then k else none
theorem AOA.moved {u U : State} (hvm : u.vm.Alike U.vm) (h : AOA u) : AOA U := by
  obtain ⟨c, comp, k, h1, h2, h3, h4⟩ := h
  obtain ⟨k', hk', he⟩ := hvm.2.2 _ _ h2
  exact ⟨c, comp, k', by rw [hvm.findClass]; exact h1, hk', by rw [he]; exact h3, by rw [hvm.findClass]; exact h4⟩
theorem Kn_move {G : Gx} {s U : State} (h : Kn G s) (hW : s.WarmedH U.vm) (hF : va_F (rA G) s U) : Kn G U := by
  obtain ⟨h1, h2, h3, h4, h5, h6, h7⟩ := h
  refine ⟨va_K.moved hW.alike h1, h2, Nat.le_trans h3 hF.1, fun j C n d hj => ?_, fun q hq => (h5 q hq).warmM hW, va_AO.moved hW.alike h6, AOA.moved hW.alike h7⟩
  obtain ⟨cf, kf, fi, f, a, cell, g1, g2, g3, g4, g5, g6, g7, g8⟩ := va_Z.moved hW.alike (h4 j C n d hj)
  exact ⟨cf, kf, fi, f, a, cell, g1, g2, g3, g4, by rw [hF.2 a (Array.getElem?_eq_some_iff.mp g5).1 g8]; exact g5, g6, g7, g8⟩
theorem Kn_blind {G : Gx} {U : State} (h : Kn G U) (g : JFrame) (mk : MethodId) (a : Array Value) : Kn G (U.calling g mk a) := by
  obtain ⟨h1, h2, h3, h4, h5, h6, h7⟩ := h
  exact ⟨va_K.moved (u := U) (U := U.calling g mk a) (Vm.Alike.refl U.vm) h1, h2, h3, fun j C n d hj => va_Z.moved (u := U) (U := U.calling g mk a) (Vm.Alike.refl U.vm) (h4 j C n d hj), fun q hq => va_Nw.same rfl (u := U) (U := U.calling g mk a) rfl (h5 q hq), va_AO.moved (u := U) (U := U.calling g mk a) (Vm.Alike.refl U.vm) h6, AOA.moved (u := U) (U := U.calling g mk a) (Vm.Alike.refl U.vm) h7⟩
section CoreF
variable {G : Gx} {l : Launch} {cc : ByteArray} {nL : Nat} {own : String} {ret : Option FieldType} {nm : String} {fr lc : Nat} {α : Type} {Q : Cx → Mem → α → Mem → State → Prop} {M M' : Mem} {pc pc' : Nat} {lv lv' : List (Nat × Value)} {st st' : List Value}
theorem qc_of {x : Cx} (A : Act G x cc nL own ret nm) {rv : α → Option Value} {r : α} {H : Heap} {locs : List Loc} (hH : Hold G M H) (hS : va_S (rA G) (xs x).heap H locs) : ∀ t : State, t.heap = H → (xs x).WarmedH t.vm → QC G rv r M (xa x) (xs x) (.returned (rv r)) t := fun t ht hW => ⟨rfl, by rw [ht]; exact hH, Kn_move A.2.2.2.2.2.2.2.2 hW (hS.F ht), hS.F ht⟩
theorem J_iret {v : Int32} (hdg : decode cc pc = .ok (.ireturn, 1)) : J G l cc nL own (some .int) nm fr lc (QM G (fun v : Int32 => some (.int v))) pc lv [.int v] M (some (v, M)) := by
  intro r Me e
  cases e
  refine ⟨⟨Nat.le_refl _, Nat.le_refl _⟩, fun x M0 e1 A f1 f2 a b c d H locs ls hH hS hl => ?_⟩
  exact W.iret A.1 A.2.1 A.2.2.2.2.2.2.1 (qc_of (rv := fun v : Int32 => some (.int v)) A hH hS) hS.2.2 hdg (hlocks := A.2.2.2.2.2.1)
theorem J_zret {v : Int32} (hdg : decode cc pc = .ok (.ireturn, 1)) : J G l cc nL own (some .boolean) nm fr lc (QM G (fun v : Int32 => some (.int v))) pc lv [.int v] M (retZ v (some (v, M))) := by
  unfold retZ
  refine J_ite (fun h => ?_) (fun _ => J_none)
  intro r Me e
  cases e
  refine ⟨⟨Nat.le_refl _, Nat.le_refl _⟩, fun x M0 e1 A f1 f2 a b c d H locs ls hH hS hl => ?_⟩
  exact W.zret A.1 A.2.1 A.2.2.2.2.2.2.1 (by rcases h with rfl | rfl <;> decide) (qc_of (rv := fun v : Int32 => some (.int v)) A hH hS) hS.2.2 hdg (hlocks := A.2.2.2.2.2.1)
theorem J_lret {v : Int64} (hdg : decode cc pc = .ok (.lreturn, 1)) : J G l cc nL own (some .long) nm fr lc (QM G (fun v : Int64 => some (.long v))) pc lv [.long v] M (some (v, M)) := by
  intro r Me e
  cases e
  refine ⟨⟨Nat.le_refl _, Nat.le_refl _⟩, fun x M0 e1 A f1 f2 a b c d H locs ls hH hS hl => ?_⟩
  exact W.lret A.1 A.2.1 A.2.2.2.2.2.2.1 (qc_of (rv := fun v : Int64 => some (.long v)) A hH hS) hS.2.2 hdg (hlocks := A.2.2.2.2.2.1)
theorem J_vret (hdg : decode cc pc = .ok (.return_, 1)) : J G l cc nL own none nm fr lc (QM G (fun _ : Unit => none)) pc lv [] M (some ((), M)) := by
  intro r Me e
  cases e
  refine ⟨⟨Nat.le_refl _, Nat.le_refl _⟩, fun x M0 e1 A f1 f2 a b c d H locs ls hH hS hl => ?_⟩
  exact W.vret A.1 A.2.1 A.2.2.2.2.2.2.1 (qc_of (r := ()) (rv := fun _ : Unit => none) A hH hS) hS.2.2 hdg (hlocks := A.2.2.2.2.2.1)
theorem J_aret {t : FieldType} {c : Nat} (hdg : decode cc pc = .ok (.areturn, 1)) : J G l cc nL own (some (.array t)) nm fr lc (QM G (fun c : Nat => some (.ref (adr G c)))) pc lv [.ref (adr G c)] M (some (c, M)) := by
  intro r Me e
  cases e
  refine ⟨⟨Nat.le_refl _, Nat.le_refl _⟩, fun x M0 e1 A f1 f2 a b c d H locs ls hH hS hl => ?_⟩
  exact W.aret A.1 A.2.1 A.2.2.2.2.2.2.1 (Or.inr ⟨t, rfl⟩) (Or.inr ⟨_, rfl⟩) (qc_of (rv := fun c : Nat => some (.ref (adr G c))) A hH hS) hS.2.2 hdg (hlocks := A.2.2.2.2.2.1)
/-- a method's walk gives its contract -/
theorem con_of {y : MethodName} {rv : α → Option Value} {args : List Value} {k : Option (α × Mem)} (hy : plainName y.cls = true) (ho : y.cls = own) (hnm : y.name = nm) (hlen : (lg_sl args).length ≤ nL)
    (h : J G l cc nL own ret nm fr lc (QM G rv) 0 (lv_args 0 args) [] M k) : Con G l y cc nL ret fr lc rv args M k := by
  intro r Me e
  refine ⟨(h r Me e).1, ?_⟩
  refine Met.ofW (cc := cc) (maxL := nL) (ret := ret) hy rfl ?_
  intro p e' s m as below meth c s₁ B hml hv
  obtain ⟨rfl, hH, hKn⟩ := hv
  have hts := atoms_spec (ws := .code y cc nL ret :: lwT) B.pre
  have hown : s.vm.findClass own = some m.cls := by rw [← ho]; exact findClass_of_methodNamed B.named
  have q := (h r Me e).2 (p, l, e', { frames := fr, cells := Me.1 - M.1, slots := Me.2.1 - M.2.1, locals := lc }, s, m, args.toArray, below, meth, c) M rfl ⟨B.exec, B.bytes, hml, hown, fun w hw => hts w (List.mem_cons_of_mem _ hw), B.notSynchronized, B.returns, (name_of_methodNamed B.named B.method).1.trans hnm, hKn⟩ (Nat.le_refl _) (Nat.le_refl _) (Nat.le_refl _) (Nat.le_refl _) (Nat.le_refl _) (Nat.le_refl _) s.heap [] _ hH va_S.rf (lv_entry args hlen)
  rw [Nat.sub_self, Nat.sub_self] at q
  rw [lg_entry_eq]
  exact q
end CoreF
end
section
/-- a method as a callee: its code is among the words, its class is initialised, how many parameters it has -/
def MOk (y : MethodName) (cc : ByteArray) (maxL : Nat) (ret : Option FieldType) (n : Nat) : Prop := Cond.code y cc maxL ret ∈ lwT ∧ Cond.initialized y.cls ∈ lwT ∧ y.cls ≠ "java/lang/invoke/MethodHandle" ∧ y.cls ≠ "java/lang/invoke/VarHandle" ∧ (parseMethodDescriptor y.desc).map (fun d => d.parameters.length) = some n
section CoreG
variable {G : Gx} {l : Launch} {cc : ByteArray} {nL : Nat} {own : String} {ret : Option FieldType} {nm : String} {fr lc : Nat} {α : Type} {Q : Cx → Mem → α → Mem → State → Prop} {M M' : Mem} {pc pc' : Nat} {lv lv' : List (Nat × Value)} {st st' : List Value}
variable {β : Type} {rv : β → Option Value} {kc : Option (β × Mem)} {k : β → Mem → Option (α × Mem)} {y : MethodName} {cc' : ByteArray} {maxL' fr' lc' n idx b ci : Nat} {ret' : Option FieldType} {As rest : List Value}
theorem run_go {x : Cx} {H : Heap} {locs : List Loc} {cells slots mc ms : Nat} {ls : Array Slot} {r : β} {Me : Mem} {a : Array Value} {Q' : State → Prop} (hr : va_Run (xp x) (xl x) (xe x) (xR x) (xs x) (xm x) (xa x) (xb x) (xt x) (xc x) H locs cells slots mc ms (F0 (xm x) pc ls st) rest (QC G rv r Me a) (rA G)) (hS : va_S (rA G) (xs x).heap H locs)
    (kk : ∀ (H1 : Heap) (locs1 : List Loc), Hold G Me H1 → va_S (rA G) (xs x).heap H1 locs1 → WW x H1 locs1 (cells + mc) (slots + ms) Q' (F0 (xm x) (pc + 3) ls ((rv r).toList ++ rest))) : WW x H locs cells slots Q' (F0 (xm x) pc ls st) := by
  intro T hT X
  obtain ⟨v, st₀, t, T', L, h0, X', hL, e1, e2, ⟨hv, hH1, hK1, hz, hk⟩, go⟩ := hr T hT X
  cases hv
  rw [h0] at hz hk
  obtain ⟨t2, a1, b1⟩ := kk T'.heap (locs ++ L) (by rw [e1]; exact hH1)
    ⟨Nat.le_trans hS.1 (by rw [e1]; exact hz), fun q h1 h2 => by rw [e1, hk q (Nat.lt_of_lt_of_le h1 hS.1) h2]; exact hS.2.1 q h1 h2, fun q hq => by
      rcases List.mem_append.mp hq with h | h
      · exact hS.2.2 q h
      · exact hL q h⟩ T' rfl X'
  exact ⟨t2, go t2 a1, b1⟩
theorem pc_blind {args : List Value} : FrameBlind (va_Pc args (fun U => Hold G M U.heap ∧ Kn G U)) := fun a U g mk h => ⟨h.1, h.2.1, Kn_blind h.2.2 g mk a⟩
theorem pc_pre {x : Cx} (A : Act G x cc nL own ret nm) {H : Heap} {locs : List Loc} {args : List Value} (hH : Hold G M H) (hS : va_S (rA G) (xs x).heap H locs) : ∀ U : State, U.heap = H → (xs x).WarmedH U.vm → va_Pc args (fun U => Hold G M U.heap ∧ Kn G U) args.toArray U := fun U hU hW => ⟨rfl, by rw [hU]; exact hH, Kn_move A.2.2.2.2.2.2.2.2 hW (hS.F hU)⟩
/-- out of a callee's run to the walk behind it -/
theorem J_ofRun (hC : Con G l y cc' maxL' ret' fr' lc' rv As M kc)
    (h : ∀ (x : Cx) (A : Act G x cc nL own ret nm) (r : β) (M1 : Mem) (H : Heap) (locs : List Loc) (ls : Array Slot) (cells slots : Nat), xl x = l → fr ≤ (xR x).frames → lc ≤ (xR x).locals → cells + (M1.1 - M.1) ≤ (xR x).cells → slots + (M1.2.1 - M.2.1) ≤ (xR x).slots → Hold G M H → va_S (rA G) (xs x).heap H locs → lv_has ls nL lv → Met (xl x) y (.code y cc' maxL' ret' :: lwT) { frames := fr', cells := M1.1 - M.1, slots := M1.2.1 - M.2.1, locals := lc' } (va_Pc As (fun U => Hold G M U.heap ∧ Kn G U)) (QC G rv r M1) (M1.1 - M.1) (M1.2.1 - M.2.1) (rA G) →
      va_Run (xp x) (xl x) (xe x) (xR x) (xs x) (xm x) (xa x) (xb x) (xt x) (xc x) H locs cells slots (M1.1 - M.1) (M1.2.1 - M.2.1) (F0 (xm x) pc ls st) rest (QC G rv r M1 As.toArray) (rA G))
    (k1 : ∀ r M1, J G l cc nL own ret nm fr lc Q (pc + 3) lv ((rv r).toList ++ rest) M1 (k r M1)) : J G l cc nL own ret nm fr lc Q pc lv st M (bd kc k) := by
  intro r Me e
  cases hk : kc with
  | none => rw [hk] at e; cases e
  | some z =>
    obtain ⟨r1, M1⟩ := z
    rw [hk] at e
    have e : k r1 M1 = some (r, Me) := e
    obtain ⟨⟨g1, g2⟩, hM⟩ := hC r1 M1 hk
    obtain ⟨⟨g3, g4⟩, go⟩ := k1 r1 M1 r Me e
    refine ⟨⟨Nat.le_trans g1 g3, Nat.le_trans g2 g4⟩, fun x M0 e1 A f1 f2 a b c d H locs ls hH hS hl => ?_⟩
    refine run_go (h x A r1 M1 H locs ls _ _ e1 f1 f2 (by omega) (by omega) hH hS hl (by rw [e1]; exact hM)) hS (fun H1 locs1 hH1 hS1 => ?_)
    have q := go x M0 e1 A f1 f2 (Nat.le_trans a g1) (Nat.le_trans b g2) c d H1 locs1 ls hH1 hS1 hl
    rw [show M.1 - M0.1 + (M1.1 - M.1) = M1.1 - M0.1 by omega, show M.2.1 - M0.2.1 + (M1.2.1 - M.2.1) = M1.2.1 - M0.2.1 by omega]
    exact q
theorem J_callV (hC : Con G l y cc' maxL' ret' fr' lc' rv (.ref (adr G b) :: As) M kc) (hm : MOk y cc' maxL' ret' As.length) (T : u_T) (N : Nat) (hq : vwCl[ci]? = some (y.cls, T, N)) (w2 : Cond.methodLink own idx y ∈ lwT) (w3 : Cond.instanceMethod y ∈ lwT) (w4 : Cond.selects y.cls y y ∈ lwT) (hR : fr' + 1 ≤ fr ∧ 8 + (maxL' + 11) + lc' ≤ lc)
    (hst : st = As.reverse ++ .ref (adr G b) :: rest) (hrm : (rest.map fun v => v.category).sum ≤ 8) (hdg : decode cc pc = .ok (.invokevirtual idx, 3))
    (k1 : ∀ r M1, J G l cc nL own ret nm fr lc Q (pc + 3) lv ((rv r).toList ++ rest) M1 (k r M1)) : J G l cc nL own ret nm fr lc Q pc lv st M (cV M ci b kc k) := by
  unfold cV
  refine J_ite (fun h => ?_) (fun _ => J_none)
  obtain ⟨hc, -, e⟩ := okO_spec h
  refine J_ofRun hC (fun x A r M1 H locs ls cells slots e1 f1 f2 c1 c2 hH hS hl hM => ?_) k1
  have hts := A.2.2.2.2.1
  exact va_runV (As := As) (rest := rest) (C := y.cls) (Ts := lwT) (nL := nL) (cc := cc) (own := own) ⟨A.1, A.2.1, A.2.2.1, A.2.2.2.1, hts⟩ hM ⟨callB_of (ws' := lwT) As.length hts (good_tbl hm.1) rfl rfl rfl (hts _ hm.2.1) (hts _ w2) hm.2.2 ⟨Nat.le_trans hR.1 f1, Nat.le_trans hR.2 f2⟩, hts _ w3, hts _ w4⟩ ⟨pc_blind, va_recv A.2.2.2.2.2.2.2.2.1 (va_P1 (hold_obj hH hc e)) (ci := ci) (q0 := 0) hq rfl, pc_pre A hH hS⟩ rfl rfl hl.1 hst (lv_room hrm) hdg ⟨c1, c2⟩
theorem J_callS (hC : Con G l y cc' maxL' ret' fr' lc' rv As M kc) (hm : MOk y cc' maxL' ret' As.length) (w2 : Cond.methodLink own idx y ∈ lwT) (w3 : Cond.static y ∈ lwT) (hR : fr' + 1 ≤ fr ∧ 8 + (maxL' + 11) + lc' ≤ lc)
    (hst : st = As.reverse ++ rest) (hrm : (rest.map fun v => v.category).sum ≤ 8) (hdg : decode cc pc = .ok (.invokestatic idx, 3))
    (k1 : ∀ r M1, J G l cc nL own ret nm fr lc Q (pc + 3) lv ((rv r).toList ++ rest) M1 (k r M1)) : J G l cc nL own ret nm fr lc Q pc lv st M (bd kc k) := by
  refine J_ofRun hC (fun x A r M1 H locs ls cells slots e1 f1 f2 c1 c2 hH hS hl hM => ?_) k1
  have hts := A.2.2.2.2.1
  exact va_runS (As := As) (rest := rest) (Ts := lwT) (nL := nL) (cc := cc) (own := own) ⟨A.1, A.2.1, A.2.2.1, A.2.2.2.1, hts⟩ hM ⟨callB_of (ws' := lwT) As.length hts (good_tbl hm.1) rfl rfl rfl (hts _ hm.2.1) (hts _ w2) hm.2.2 ⟨Nat.le_trans hR.1 f1, Nat.le_trans hR.2 f2⟩, hts _ w3⟩ ⟨pc_blind, pc_pre A hH hS⟩ rfl rfl hl.1 hst (lv_room hrm) hdg ⟨c1, c2⟩
theorem J_callSN {host : String} (hC : Con G l y cc' maxL' ret' fr' lc' rv As M kc) (hm : MOk y cc' maxL' ret' As.length) (w2 : (own, idx, y, host) ∈ lwN) (w3 : Cond.static y ∈ lwT) (hR : fr' + 1 ≤ fr ∧ 8 + (maxL' + 11) + lc' ≤ lc)
    (hst : st = As.reverse ++ rest) (hrm : (rest.map fun v => v.category).sum ≤ 8) (hdg : decode cc pc = .ok (.invokestatic idx, 3))
    (k1 : ∀ r M1, J G l cc nL own ret nm fr lc Q (pc + 3) lv ((rv r).toList ++ rest) M1 (k r M1)) : J G l cc nL own ret nm fr lc Q pc lv st M (bd kc k) := by
  refine J_ofRun hC (fun x A r M1 H locs ls cells slots e1 f1 f2 c1 c2 hH hS hl hM => ?_) k1
  have hts := A.2.2.2.2.1
  exact va_runSN (As := As) (rest := rest) (Ts := lwT) (nL := nL) (cc := cc) (own := own) (host := host) ⟨A.1, A.2.1, A.2.2.1, A.2.2.2.1, hts⟩ hM ⟨va_cnB (ws' := lwT) As.length hts (good_tbl hm.1) rfl rfl rfl (A.2.2.2.2.2.2.2.2.2.2.2.2.1 _ w2) (hts _ hm.2.1) hm.2.2 ⟨Nat.le_trans hR.1 f1, Nat.le_trans hR.2 f2⟩, hts _ w3, trivial⟩ ⟨pc_blind, pc_pre A hH hS⟩ rfl rfl hl.1 hst (lv_room hrm) hdg ⟨c1, c2⟩
theorem J_callI (hC : Con G l y cc' maxL' none fr' lc' rv (.ref (adr G b) :: As) M kc) (hm : MOk y cc' maxL' none As.length) (hy : y.name = "<init>") (w2 : Cond.methodLink own idx y ∈ lwT) (w3 : Cond.instanceMethod y ∈ lwT) (hR : fr' + 1 ≤ fr ∧ 8 + (maxL' + 11) + lc' ≤ lc)
    (hst : st = As.reverse ++ .ref (adr G b) :: rest) (hrm : (rest.map fun v => v.category).sum ≤ 8) (hdg : decode cc pc = .ok (.invokespecial idx, 3))
    (k1 : ∀ r M1, J G l cc nL own ret nm fr lc Q (pc + 3) lv ((rv r).toList ++ rest) M1 (k r M1)) : J G l cc nL own ret nm fr lc Q pc lv st M (bd kc k) := by
  refine J_ofRun hC (fun x A r M1 H locs ls cells slots e1 f1 f2 c1 c2 hH hS hl hM => ?_) k1
  have hts := A.2.2.2.2.1
  exact va_runI (As := As) (rest := rest) (Ts := lwT) (nL := nL) (cc := cc) (own := own) ⟨A.1, A.2.1, A.2.2.1, A.2.2.2.1, hts⟩ hM ⟨callB_of (ws' := lwT) As.length hts (good_tbl hm.1) rfl rfl rfl (hts _ hm.2.1) (hts _ w2) hm.2.2 ⟨Nat.le_trans hR.1 f1, Nat.le_trans hR.2 f2⟩, hy, hts _ w3⟩ ⟨pc_blind, pc_pre A hH hS⟩ rfl rfl hl.1 hst (lv_room hrm) hdg ⟨c1, c2⟩
theorem J_callIN {host : String} (hC : Con G l y cc' maxL' none fr' lc' rv (.ref (adr G b) :: As) M kc) (hm : MOk y cc' maxL' none As.length) (hy : y.name = "<init>") (w2 : (own, idx, y, host) ∈ lwN) (w3 : Cond.instanceMethod y ∈ lwT) (hR : fr' + 1 ≤ fr ∧ 8 + (maxL' + 11) + lc' ≤ lc)
    (hst : st = As.reverse ++ .ref (adr G b) :: rest) (hrm : (rest.map fun v => v.category).sum ≤ 8) (hdg : decode cc pc = .ok (.invokespecial idx, 3))
    (k1 : ∀ r M1, J G l cc nL own ret nm fr lc Q (pc + 3) lv ((rv r).toList ++ rest) M1 (k r M1)) : J G l cc nL own ret nm fr lc Q pc lv st M (bd kc k) := by
  refine J_ofRun hC (fun x A r M1 H locs ls cells slots e1 f1 f2 c1 c2 hH hS hl hM => ?_) k1
  have hts := A.2.2.2.2.1
  exact va_runIN (As := As) (rest := rest) (Ts := lwT) (nL := nL) (cc := cc) (own := own) (host := host) ⟨A.1, A.2.1, A.2.2.1, A.2.2.2.1, hts⟩ hM ⟨va_cnB (ws' := lwT) As.length hts (good_tbl hm.1) rfl rfl rfl (A.2.2.2.2.2.2.2.2.2.2.2.2.1 _ w2) (hts _ hm.2.1) hm.2.2 ⟨Nat.le_trans hR.1 f1, Nat.le_trans hR.2 f2⟩, hy, hts _ w3⟩ ⟨pc_blind, pc_pre A hH hS⟩ rfl rfl hl.1 hst (lv_room hrm) hdg ⟨c1, c2⟩
theorem J_objInit {c : Nat} {k : Option (α × Mem)} (w1 : Cond.methodLink own idx Lib.objectInit ∈ lwT) (w2 : Cond.instanceMethod Lib.objectInit ∈ lwT) (w3 : Cond.code Lib.objectInit ⟨#[0xb1]⟩ 1 none ∈ lwT) (hR : 1 ≤ fr ∧ 20 ≤ lc) (hrm : (st.map fun v => v.category).sum ≤ 8) (hdg : decode cc pc = .ok (.invokespecial idx, 3)) (k1 : J G l cc nL own ret nm fr lc Q (pc + 3) lv st M k) : J G l cc nL own ret nm fr lc Q pc lv (.ref (adr G c) :: st) M k := by
  intro r Me e
  refine ⟨(k1 r Me e).1, fun x M0 e1 A f1 f2 a b c' d H locs ls hH hS hl => ?_⟩
  have hts := A.2.2.2.2.1
  have h8 := lv_room (m := xm x) (pc := pc) (ls := ls) (rest := st) hrm
  refine W.objInit A.1 A.2.1 (own := own) A.2.2.2.1 (hts _ w1) (hts _ w2) (hts _ w3) (g := F0 (xm x) pc ls (.ref (adr G c) :: st)) rfl (hl.1.trans A.2.2.1.symm) rfl hdg (Nat.le_trans hR.1 f1) (Nat.le_trans (Nat.le_trans (Nat.add_le_add_right h8 12) hR.2) f2) ?_
  exact (k1 r Me e).2 x M0 e1 A f1 f2 a b c' d H locs ls hH hS hl
end CoreG
end
section
def u1 {α : Type} (f : Nat → Nat → α) (c : Nat) (g : Nat → α) : Nat → Nat → α := fun c' => if c' = c then g else f c'
theorem u1_ne {α : Type} {f : Nat → Nat → α} {c c' : Nat} {g : Nat → α} (h : c' ≠ c) : u1 f c g c' = f c' := by unfold u1; rw [if_neg h]
theorem u1_eq {α : Type} {f : Nat → Nat → α} {c : Nat} {g : Nat → α} : u1 f c g c = g := by unfold u1; rw [if_pos rfl]
def okC (M : Mem) (ty : FieldType) (c : Nat) (sp : Int32) (d : Nat) (dp n : Int32) : Bool := (decide (c < M.1) && (decide (d < M.1) && (decide (nS ≤ d) && decide (¬ sp < 0 ∧ ¬ dp < 0 ∧ ¬ n < 0)))) && (match mSh M c, mSh M d with
  | .inl (t, n0), .inl (t', n1) => (decide (t = ty) && decide (t' = ty)) && (decide (sp.toNatClampNeg + n.toNatClampNeg ≤ n0) && decide (dp.toNatClampNeg + n.toNatClampNeg ≤ n1))
  | _, _ => false)
theorem okC_spec {M : Mem} {ty : FieldType} {c d : Nat} {sp dp n : Int32} (h : okC M ty c sp d dp n = true) : c < M.1 ∧ d < M.1 ∧ nS ≤ d ∧ (¬ sp < 0 ∧ ¬ dp < 0 ∧ ¬ n < 0) ∧ ∃ n0 n1, mSh M c = .inl (ty, n0) ∧ mSh M d = .inl (ty, n1) ∧ sp.toNatClampNeg + n.toNatClampNeg ≤ n0 ∧ dp.toNatClampNeg + n.toNatClampNeg ≤ n1 := by
  unfold okC at h
  rw [Bool.and_eq_true, Bool.and_eq_true, Bool.and_eq_true, Bool.and_eq_true] at h
  obtain ⟨⟨h1, h2, h3, h4⟩, h5⟩ := h
  refine ⟨of_decide_eq_true h1, of_decide_eq_true h2, of_decide_eq_true h3, of_decide_eq_true h4, ?_⟩
  split at h5
  · next t n0 t' n1 e1 e2 =>
    rw [Bool.and_eq_true, Bool.and_eq_true, Bool.and_eq_true] at h5
    obtain ⟨⟨g1, g2⟩, g3, g4⟩ := h5
    have g1 := of_decide_eq_true g1
    have g2 := of_decide_eq_true g2
    subst g1
    subst g2
    exact ⟨n0, n1, e1, e2, of_decide_eq_true g3, of_decide_eq_true g4⟩
  · cases h5
theorem okC_of {M : Mem} {ty : FieldType} {c d n0 n1 : Nat} {sp dp n : Int32} (h1 : c < M.1) (h2 : d < M.1) (h3 : nS ≤ d) (h4 : ¬ sp < 0 ∧ ¬ dp < 0 ∧ ¬ n < 0) (e1 : mSh M c = .inl (ty, n0)) (e2 : mSh M d = .inl (ty, n1)) (h5 : sp.toNatClampNeg + n.toNatClampNeg ≤ n0) (h6 : dp.toNatClampNeg + n.toNatClampNeg ≤ n1) : okC M ty c sp d dp n = true := by
  unfold okC
  rw [e1, e2]
  simp only [Bool.and_eq_true, decide_eq_true_eq]
  exact ⟨⟨h1, h2, h3, h4⟩, ⟨trivial, trivial⟩, h5, h6⟩
def cpM (M : Mem) (c : Nat) (sp : Int32) (d : Nat) (dp n : Int32) : Mem := (M.1, M.2.1, mSh M, mR M, u1 (mI M) d (va_cpy (mI M c) (mI M d) sp.toNatClampNeg dp.toNatClampNeg n.toNatClampNeg), mJ M)
def cpL (M : Mem) (c : Nat) (sp : Int32) (d : Nat) (dp n : Int32) : Mem := (M.1, M.2.1, mSh M, mR M, mI M, u1 (mJ M) d (va_cpy (mJ M c) (mJ M d) sp.toNatClampNeg dp.toNatClampNeg n.toNatClampNeg))
def cpI {β : Type} (M : Mem) (ty : FieldType) (c : Nat) (sp : Int32) (d : Nat) (dp n : Int32) (k : Mem → Option β) : Option β := if okC M ty c sp d dp n = true ∧ ∀ i, i < n.toNatClampNeg → fits ty (.int (mI M c (sp.toNatClampNeg + i))) = true then k (cpM M c sp d dp n) else none
def cpJ {β : Type} (M : Mem) (c : Nat) (sp : Int32) (d : Nat) (dp n : Int32) (k : Mem → Option β) : Option β := if okC M .long c sp d dp n = true then k (cpL M c sp d dp n) else none
theorem nn32 (z : Int32) (hz : ¬ z < 0) : z.toInt = (z.toNatClampNeg : Int) := by
  have hz0 : (0 : Int) ≤ z.toInt := by
    have := Int32.not_lt.mp hz
    simpa using Int32.le_iff_toInt_le.mp this
  show z.toInt = ((z.toInt.toNat : Nat) : Int)
  omega
section CoreH
variable {G : Gx} {l : Launch} {cc : ByteArray} {nL : Nat} {own : String} {ret : Option FieldType} {nm : String} {fr lc : Nat} {α : Type} {Q : Cx → Mem → α → Mem → State → Prop} {M M' : Mem} {pc pc' : Nat} {lv lv' : List (Nat × Value)} {st st' : List Value}
theorem J_gets {k : Option (α × Mem)} {j idx : Nat} {C n d : String} (hj : sTab[j]? = some (C, n, d)) (hlt : j < nS) (hw : Cond.fieldLink own idx C n d ∈ lwT) (hdg : decode cc pc = .ok (.getstatic idx, 3)) (k1 : J G l cc nL own ret nm fr lc Q (pc + 3) lv (.ref (adr G j) :: st) M k) : J G l cc nL own ret nm fr lc Q pc lv st M k := by
  refine J_stepH (fun x A H _ _ _ _ _ hH hS _ w => ?_) k1
  have hZ := A.2.2.2.2.2.2.2.2.2.2.2.1 j C n d hj
  have e : adr G j = G.2.2.2 j := by unfold adr; rw [if_pos hlt]
  rw [e] at w
  exact va_gets A.1 A.2.1 hZ hS A.2.2.2.1 (A.2.2.2.2.1 _ hw) (fun _ h => h) hdg w
theorem J_copyI {ty : FieldType} {t0 : Nat} (ht : ∀ D : va_G, ∀ f : FieldType → ClassId, ∀ a : Nat, ∀ b : Nat → Nat, (tysG (D, f, a, b))[t0]? = some (f ty, ty)) (hrow : ∀ (G : Gx) (M : Mem) (c : Nat), rowOf G M c ty = .inl (mI M c)) (hprim : refKind ty = false) {k : Mem → Option (α × Mem)} {c d idx : Nat} {sp dp n : Int32} (w1 : Cond.methodLink own idx arraycopyName ∈ lwT) (w2 : Cond.native arraycopyName ∈ lwT) (w3 : Cond.static arraycopyName ∈ lwT) (w4 : Cond.initialized "java/lang/System" ∈ lwT) (hR : 1 ≤ fr ∧ (st.map fun v => v.category).sum + (nativeFrameWords "java/lang/System" "arraycopy" 5 + 11) ≤ lc) (hdg : decode cc pc = .ok (.invokestatic idx, 3))
    (k1 : J G l cc nL own ret nm fr lc Q (pc + 3) lv st (cpM M c sp d dp n) (k (cpM M c sp d dp n))) : J G l cc nL own ret nm fr lc Q pc lv (.int n :: .int dp :: .ref (adr G d) :: .int sp :: .ref (adr G c) :: st) M (cpI M ty c sp d dp n k) := by
  unfold cpI
  refine J_ite (fun h => ?_) (fun _ => J_none)
  obtain ⟨hfc, hfit⟩ := h
  obtain ⟨q1, q2, q3, ⟨h1, h2, h3⟩, n0, n1, s1, s2, h4, h5⟩ := okC_spec hfc
  intro r Me e
  refine ⟨(k1 r Me e).1, fun x M0 e1 A f1 f2 a b cq dq H locs ls hH hS hl => ?_⟩
  have hts := A.2.2.2.2.1
  have hK := A.2.2.2.2.2.2.2.2.1
  have hc0 : H[adr G c]? = some (vp_cell (G.2.1 ty) (n0, .inl (mI M c))) := by have z := hold_arr hH q1 s1; rw [hrow] at z; exact z
  have hc1 : H[adr G d]? = some (vp_cell (G.2.1 ty) (n1, .inl (mI M d))) := by have z := hold_arr hH q2 s2; rw [hrow] at z; exact z
  intro T hT X
  obtain ⟨-, k0, hk0, cm0, hkk0⟩ := (hK.2 t0 _ (ht _ _ _ _)).1 n0 (fun j => .int (mI M c j))
  obtain ⟨-, k9, hk9, cm9, hkk9⟩ := (hK.2 t0 _ (ht _ _ _ _)).1 n1 (fun j => .int (mI M d j))
  obtain ⟨vm', X', step⟩ := X.arraycopy A.1 (own := own) A.2.2.2.1 (hts _ w1) (hts _ w2) (hts _ w3) (hts _ w4) (src := adr G c) (dst := adr G d) (cs := vp_cell (G.2.1 ty) (n0, .inl (mI M c))) (cd := vp_cell (G.2.1 ty) (n1, .inl (mI M d))) (srcPos := sp) (destPos := dp) (n := n) (by rw [hT]; exact hc0) (by rw [hT]; exact hc1)
    (fun _ h => by cases h) (fun _ h => by cases h) (fun h => by cases h) (fun h => by cases h) hk0 hk9 hkk0 hkk9 (by simp [hprim]) h1 h2 h3
    (by rw [nn32 sp h1, nn32 n h3]; show ¬ _ > ((arrV _ n0 (fun j => .int (mI M c j))).slots.size : Int); rw [arrV_size]; omega)
    (by rw [nn32 dp h2, nn32 n h3]; show ¬ _ > ((arrV _ n1 (fun j => .int (mI M d j))).slots.size : Int); rw [arrV_size]; omega)
    (fun vm₁ _ i hi => by
      have e : (vp_cell (G.2.1 ty) (n0, .inl (mI M c))).slots.getD (sp.toNatClampNeg + i) .null = .int (mI M c (sp.toNatClampNeg + i)) := by
        show (arrV _ n0 (fun j => .int (mI M c j))).slots.getD _ _ = _
        rw [Array.getD_eq_getD_getElem?, arrV_read _ _ (by omega)]
        rfl
      refine ⟨?_, ?_⟩
      · rw [e]
        exact hfit i hi
      · rw [e]
        exact trivial)
    (g := F0 (xm x) pc ls (.int n :: .int dp :: .ref (adr G d) :: .int sp :: .ref (adr G c) :: st)) rfl (by rw [A.2.2.1]; exact hl.1) (rest := st) rfl (by rw [A.2.1]; exact hdg) (Nat.le_trans hR.1 f1) (by show 2 * 0 + _ + _ ≤ _; have := Nat.le_trans hR.2 f2; omega)
  have e1 : copied (vp_cell (G.2.1 ty) (n0, .inl (mI M c))) (vp_cell (G.2.1 ty) (n1, .inl (mI M d))) sp dp n = vp_cell (G.2.1 ty) (n1, .inl (va_cpy (mI M c) (mI M d) sp.toNatClampNeg dp.toNatClampNeg n.toNatClampNeg)) := va_copied (fun z => .int z) _ _ _ _ h4
  rw [e1] at X' step
  have hlH : adr G d < H.size := (Array.getElem?_eq_some_iff.mp hc1).1
  generalize hN : vp_cell (G.2.1 ty) (n1, .inl (va_cpy (mI M c) (mI M d) sp.toNatClampNeg dp.toNatClampNeg n.toNatClampNeg)) = N at X' step
  have hheap : ((T.setVm vm').setCell (adr G d) N).heap = H.setIfInBounds (adr G d) N := by rw [← hT]; rfl
  have oq : ∀ q : Nat, q ≠ adr G d → (H.setIfInBounds (adr G d) N)[q]? = H[q]? := fun q hq => by simp [Array.getElem?_setIfInBounds, Ne.symm hq]
  have hcn : cont G (cpM M c sp d dp n) d = .inl (G.2.1 ty, n1, .inl (va_cpy (mI M c) (mI M d) sp.toNatClampNeg dp.toNatClampNeg n.toNatClampNeg)) := by
    unfold cont
    rw [show mSh (cpM M c sp d dp n) d = .inl (ty, n1) from s2]
    show (Sum.inl (G.2.1 ty, n1, rowOf G (cpM M c sp d dp n) d ty) : va_E) = _
    rw [hrow]
    show (Sum.inl (G.2.1 ty, n1, .inl (u1 (mI M) d _ d)) : va_E) = _
    rw [u1_eq]
  have hH1 : Hold G (cpM M c sp d dp n) (H.setIfInBounds (adr G d) N) := hold_set hH A.2.2.2.2.2.2.2.2.2.1 q3 rfl (by simp) oq (fun c' q => cont_congr rfl rfl (u1_ne q) rfl) (by rw [hcn]; show (H.setIfInBounds _ _)[_]? = some (vp_cell _ _); rw [hN]; simp [Array.getElem?_setIfInBounds, hlH])
  obtain ⟨t, a1, b1⟩ := (k1 r Me e).2 x M0 (by assumption) A f1 f2 a b cq dq (H.setIfInBounds (adr G d) N) _ ls hH1 ⟨by simp; exact hS.1, fun q g1 g2 => by
      rw [oq q (fun e => g2 (by rw [e]; exact adr_rA q3))]
      exact hS.2.1 q g1 g2, fun q hq => by
      rcases List.mem_append.mp hq with h | h
      · exact hS.2.2 q h
      · obtain ⟨z, -, hz⟩ := List.mem_map.mp h
        rw [← hz]
        exact adr_rA q3⟩ hl _ hheap X'
  exact ⟨t, step t a1, b1⟩
theorem J_copyJ {k : Mem → Option (α × Mem)} {c d idx : Nat} {sp dp n : Int32} (w1 : Cond.methodLink own idx arraycopyName ∈ lwT) (w2 : Cond.native arraycopyName ∈ lwT) (w3 : Cond.static arraycopyName ∈ lwT) (w4 : Cond.initialized "java/lang/System" ∈ lwT) (hR : 1 ≤ fr ∧ (st.map fun v => v.category).sum + (nativeFrameWords "java/lang/System" "arraycopy" 5 + 11) ≤ lc) (hdg : decode cc pc = .ok (.invokestatic idx, 3))
    (k1 : J G l cc nL own ret nm fr lc Q (pc + 3) lv st (cpL M c sp d dp n) (k (cpL M c sp d dp n))) : J G l cc nL own ret nm fr lc Q pc lv (.int n :: .int dp :: .ref (adr G d) :: .int sp :: .ref (adr G c) :: st) M (cpJ M c sp d dp n k) := by
  unfold cpJ
  refine J_ite (fun h => ?_) (fun _ => J_none)
  obtain ⟨q1, q2, q3, ⟨h1, h2, h3⟩, n0, n1, s1, s2, h4, h5⟩ := okC_spec h
  intro r Me e
  refine ⟨(k1 r Me e).1, fun x M0 e1 A f1 f2 a b cq dq H locs ls hH hS hl => ?_⟩
  have hts := A.2.2.2.2.1
  have hK := A.2.2.2.2.2.2.2.2.1
  have hc0 : H[adr G c]? = some (vp_cell (G.2.1 .long) (n0, .inr (.inl (mJ M c)))) := hold_arr hH q1 s1
  have hc1 : H[adr G d]? = some (vp_cell (G.2.1 .long) (n1, .inr (.inl (mJ M d)))) := hold_arr hH q2 s2
  intro T hT X
  obtain ⟨-, k0, hk0, cm0, hkk0⟩ := (hK.2 3 _ rfl).1 n0 (fun j => .long (mJ M c j))
  obtain ⟨-, k9, hk9, cm9, hkk9⟩ := (hK.2 3 _ rfl).1 n1 (fun j => .long (mJ M d j))
  obtain ⟨vm', X', step⟩ := X.arraycopy A.1 (own := own) A.2.2.2.1 (hts _ w1) (hts _ w2) (hts _ w3) (hts _ w4) (src := adr G c) (dst := adr G d) (cs := vp_cell (G.2.1 .long) (n0, .inr (.inl (mJ M c)))) (cd := vp_cell (G.2.1 .long) (n1, .inr (.inl (mJ M d)))) (srcPos := sp) (destPos := dp) (n := n) (by rw [hT]; exact hc0) (by rw [hT]; exact hc1)
    (fun _ h => by cases h) (fun _ h => by cases h) (fun h => by cases h) (fun h => by cases h) hk0 hk9 hkk0 hkk9 (by simp [refKind]) h1 h2 h3
    (by rw [nn32 sp h1, nn32 n h3]; show ¬ _ > ((arrV _ n0 (fun j => .long (mJ M c j))).slots.size : Int); rw [arrV_size]; omega)
    (by rw [nn32 dp h2, nn32 n h3]; show ¬ _ > ((arrV _ n1 (fun j => .long (mJ M d j))).slots.size : Int); rw [arrV_size]; omega)
    (fun vm₁ _ i hi => by
      have e : (vp_cell (G.2.1 .long) (n0, .inr (.inl (mJ M c)))).slots.getD (sp.toNatClampNeg + i) .null = .long (mJ M c (sp.toNatClampNeg + i)) := by
        show (arrV _ n0 (fun j => .long (mJ M c j))).slots.getD _ _ = _
        rw [Array.getD_eq_getD_getElem?, arrV_read _ _ (by omega)]
        rfl
      refine ⟨?_, ?_⟩
      · rw [e]
        rfl
      · rw [e]
        exact trivial)
    (g := F0 (xm x) pc ls (.int n :: .int dp :: .ref (adr G d) :: .int sp :: .ref (adr G c) :: st)) rfl (by rw [A.2.2.1]; exact hl.1) (rest := st) rfl (by rw [A.2.1]; exact hdg) (Nat.le_trans hR.1 f1) (by show 2 * 0 + _ + _ ≤ _; have := Nat.le_trans hR.2 f2; omega)
  have e1 : copied (vp_cell (G.2.1 .long) (n0, .inr (.inl (mJ M c)))) (vp_cell (G.2.1 .long) (n1, .inr (.inl (mJ M d)))) sp dp n = vp_cell (G.2.1 .long) (n1, .inr (.inl (va_cpy (mJ M c) (mJ M d) sp.toNatClampNeg dp.toNatClampNeg n.toNatClampNeg))) := va_copied (fun z => .long z) _ _ _ _ h4
  rw [e1] at X' step
  have hlH : adr G d < H.size := (Array.getElem?_eq_some_iff.mp hc1).1
  generalize hN : vp_cell (G.2.1 .long) (n1, .inr (.inl (va_cpy (mJ M c) (mJ M d) sp.toNatClampNeg dp.toNatClampNeg n.toNatClampNeg))) = N at X' step
  have hheap : ((T.setVm vm').setCell (adr G d) N).heap = H.setIfInBounds (adr G d) N := by rw [← hT]; rfl
  have oq : ∀ q : Nat, q ≠ adr G d → (H.setIfInBounds (adr G d) N)[q]? = H[q]? := fun q hq => by simp [Array.getElem?_setIfInBounds, Ne.symm hq]
  have hcn : cont G (cpL M c sp d dp n) d = .inl (G.2.1 .long, n1, .inr (.inl (va_cpy (mJ M c) (mJ M d) sp.toNatClampNeg dp.toNatClampNeg n.toNatClampNeg))) := by
    unfold cont
    rw [show mSh (cpL M c sp d dp n) d = .inl (.long, n1) from s2]
    show (Sum.inl (G.2.1 .long, n1, .inr (.inl (u1 (mJ M) d _ d))) : va_E) = _
    rw [u1_eq]
  have hH1 : Hold G (cpL M c sp d dp n) (H.setIfInBounds (adr G d) N) := hold_set hH A.2.2.2.2.2.2.2.2.2.1 q3 rfl (by simp) oq (fun c' q => cont_congr rfl rfl rfl (u1_ne q)) (by rw [hcn]; show (H.setIfInBounds _ _)[_]? = some (vp_cell _ _); rw [hN]; simp [Array.getElem?_setIfInBounds, hlH])
  obtain ⟨t, a1, b1⟩ := (k1 r Me e).2 x M0 (by assumption) A f1 f2 a b cq dq (H.setIfInBounds (adr G d) N) _ ls hH1 ⟨by simp; exact hS.1, fun q g1 g2 => by
      rw [oq q (fun e => g2 (by rw [e]; exact adr_rA q3))]
      exact hS.2.1 q g1 g2, fun q hq => by
      rcases List.mem_append.mp hq with h | h
      · exact hS.2.2 q h
      · obtain ⟨z, -, hz⟩ := List.mem_map.mp h
        rw [← hz]
        exact adr_rA q3⟩ hl _ hheap X'
  exact ⟨t, step t a1, b1⟩
end CoreH
end
