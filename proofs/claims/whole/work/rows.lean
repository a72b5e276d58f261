section
-- ===== PART A: goes FIRST, ahead of the names: the tables' words, and 'selects' of the private methods out of them =====
/-- a private method of a class that the tables say can be made, by its rows of tables_1 -/
def lw_okq (q : MethodName × Nat) : Prop := (q.1.cls ≠ "java/lang/invoke/MethodHandle" ∧ q.1.cls ≠ "java/lang/invoke/VarHandle") ∧ Cond.instantiable q.1.cls q.2 ∈ tables_1 ∧ Cond.privateMethod q.1 ∈ tables_1 ∧ Cond.instanceMethod q.1 ∈ tables_1
theorem lw_p0 : lw_okq (⟨"ChainBooks$Ledger", "append", "(J)I"⟩, 18) := ⟨⟨by decide +kernel, by decide +kernel⟩, List.mem_of_getElem? (i := 22) (by decide +kernel), List.mem_of_getElem? (i := 342) (by decide +kernel), List.mem_of_getElem? (i := 343) (by decide +kernel)⟩
theorem lw_p1 : lw_okq (⟨"ChainBooks", "written", "(I)I"⟩, 8) := ⟨⟨by decide +kernel, by decide +kernel⟩, List.mem_of_getElem? (i := 14) (by decide +kernel), List.mem_of_getElem? (i := 349) (by decide +kernel), List.mem_of_getElem? (i := 350) (by decide +kernel)⟩
theorem lw_p2 : lw_okq (⟨"ChainBooks$Ledger", "answeredBefore", "(J)I"⟩, 18) := ⟨⟨by decide +kernel, by decide +kernel⟩, List.mem_of_getElem? (i := 22) (by decide +kernel), List.mem_of_getElem? (i := 391) (by decide +kernel), List.mem_of_getElem? (i := 392) (by decide +kernel)⟩
theorem lw_p3 : lw_okq (⟨"ChainBooks$Ledger", "isAsDrafted", "(I)Z"⟩, 18) := ⟨⟨by decide +kernel, by decide +kernel⟩, List.mem_of_getElem? (i := 22) (by decide +kernel), List.mem_of_getElem? (i := 395) (by decide +kernel), List.mem_of_getElem? (i := 396) (by decide +kernel)⟩
theorem lw_p4 : lw_okq (⟨"ChainBooks$Ledger", "areThere", "(LChainBooks$Legs;)Z"⟩, 18) := ⟨⟨by decide +kernel, by decide +kernel⟩, List.mem_of_getElem? (i := 22) (by decide +kernel), List.mem_of_getElem? (i := 399) (by decide +kernel), List.mem_of_getElem? (i := 400) (by decide +kernel)⟩
theorem lw_p5 : lw_okq (⟨"ChainBooks$Ledger", "weigh", "(LChainBooks$Legs;IJ)I"⟩, 18) := ⟨⟨by decide +kernel, by decide +kernel⟩, List.mem_of_getElem? (i := 22) (by decide +kernel), List.mem_of_getElem? (i := 408) (by decide +kernel), List.mem_of_getElem? (i := 409) (by decide +kernel)⟩
theorem lw_p6 : lw_okq (⟨"ChainBooks$Ledger", "move", "(JLChainBooks$Legs;)I"⟩, 18) := ⟨⟨by decide +kernel, by decide +kernel⟩, List.mem_of_getElem? (i := 22) (by decide +kernel), List.mem_of_getElem? (i := 416) (by decide +kernel), List.mem_of_getElem? (i := 417) (by decide +kernel)⟩
theorem lw_p7 : lw_okq (⟨"ChainBooks$Ledger", "addTrial", "()V"⟩, 18) := ⟨⟨by decide +kernel, by decide +kernel⟩, List.mem_of_getElem? (i := 22) (by decide +kernel), List.mem_of_getElem? (i := 420) (by decide +kernel), List.mem_of_getElem? (i := 421) (by decide +kernel)⟩
theorem lw_p8 : lw_okq (⟨"ChainBooks$Ledger", "isHoldThere", "(I)Z"⟩, 18) := ⟨⟨by decide +kernel, by decide +kernel⟩, List.mem_of_getElem? (i := 22) (by decide +kernel), List.mem_of_getElem? (i := 444) (by decide +kernel), List.mem_of_getElem? (i := 445) (by decide +kernel)⟩
theorem lw_p9 : lw_okq (⟨"ChainBooks$Ledger", "endHold", "(II)V"⟩, 18) := ⟨⟨by decide +kernel, by decide +kernel⟩, List.mem_of_getElem? (i := 22) (by decide +kernel), List.mem_of_getElem? (i := 452) (by decide +kernel), List.mem_of_getElem? (i := 453) (by decide +kernel)⟩
theorem lw_p10 : lw_okq (⟨"ChainBooks$Ledger", "accountHeld", "(I)I"⟩, 18) := ⟨⟨by decide +kernel, by decide +kernel⟩, List.mem_of_getElem? (i := 22) (by decide +kernel), List.mem_of_getElem? (i := 456) (by decide +kernel), List.mem_of_getElem? (i := 457) (by decide +kernel)⟩
theorem lw_p11 : lw_okq (⟨"ChainBooks$Ledger", "amountHeld", "(I)J"⟩, 18) := ⟨⟨by decide +kernel, by decide +kernel⟩, List.mem_of_getElem? (i := 22) (by decide +kernel), List.mem_of_getElem? (i := 460) (by decide +kernel), List.mem_of_getElem? (i := 461) (by decide +kernel)⟩
theorem lw_p12 : lw_okq (⟨"ChainBooks", "legOf", "(II)J"⟩, 8) := ⟨⟨by decide +kernel, by decide +kernel⟩, List.mem_of_getElem? (i := 14) (by decide +kernel), List.mem_of_getElem? (i := 498) (by decide +kernel), List.mem_of_getElem? (i := 499) (by decide +kernel)⟩
theorem lw_p13 : lw_okq (⟨"ChainBooks$Sha", "readSchedule", "(I)V"⟩, 4) := ⟨⟨by decide +kernel, by decide +kernel⟩, List.mem_of_getElem? (i := 151) (by decide +kernel), List.mem_of_getElem? (i := 558) (by decide +kernel), List.mem_of_getElem? (i := 559) (by decide +kernel)⟩
theorem lw_p14 : lw_okq (⟨"ChainBooks$Sha", "mix", "()V"⟩, 4) := ⟨⟨by decide +kernel, by decide +kernel⟩, List.mem_of_getElem? (i := 151) (by decide +kernel), List.mem_of_getElem? (i := 562) (by decide +kernel), List.mem_of_getElem? (i := 563) (by decide +kernel)⟩
theorem lw_p15 : lw_okq (⟨"ChainBooks$Pages", "nodeOf", "(II)[I"⟩, 8) := ⟨⟨by decide +kernel, by decide +kernel⟩, List.mem_of_getElem? (i := 145) (by decide +kernel), List.mem_of_getElem? (i := 576) (by decide +kernel), List.mem_of_getElem? (i := 577) (by decide +kernel)⟩
def lw_privs_1 : List (MethodName × Nat) := [(⟨"ChainBooks$Ledger", "append", "(J)I"⟩, 18), (⟨"ChainBooks", "written", "(I)I"⟩, 8), (⟨"ChainBooks$Ledger", "answeredBefore", "(J)I"⟩, 18), (⟨"ChainBooks$Ledger", "isAsDrafted", "(I)Z"⟩, 18), (⟨"ChainBooks$Ledger", "areThere", "(LChainBooks$Legs;)Z"⟩, 18), (⟨"ChainBooks$Ledger", "weigh", "(LChainBooks$Legs;IJ)I"⟩, 18), (⟨"ChainBooks$Ledger", "move", "(JLChainBooks$Legs;)I"⟩, 18), (⟨"ChainBooks$Ledger", "addTrial", "()V"⟩, 18), (⟨"ChainBooks$Ledger", "isHoldThere", "(I)Z"⟩, 18), (⟨"ChainBooks$Ledger", "endHold", "(II)V"⟩, 18), (⟨"ChainBooks$Ledger", "accountHeld", "(I)I"⟩, 18), (⟨"ChainBooks$Ledger", "amountHeld", "(I)J"⟩, 18), (⟨"ChainBooks", "legOf", "(II)J"⟩, 8), (⟨"ChainBooks$Sha", "readSchedule", "(I)V"⟩, 4), (⟨"ChainBooks$Sha", "mix", "()V"⟩, 4), (⟨"ChainBooks$Pages", "nodeOf", "(II)[I"⟩, 8)]
theorem lw_r1 : ∀ q ∈ lw_privs_1, lw_okq q := List.forall_mem_cons.mpr ⟨lw_p0, List.forall_mem_cons.mpr ⟨lw_p1, List.forall_mem_cons.mpr ⟨lw_p2, List.forall_mem_cons.mpr ⟨lw_p3, List.forall_mem_cons.mpr ⟨lw_p4, List.forall_mem_cons.mpr ⟨lw_p5, List.forall_mem_cons.mpr ⟨lw_p6, List.forall_mem_cons.mpr ⟨lw_p7, List.forall_mem_cons.mpr ⟨lw_p8, List.forall_mem_cons.mpr ⟨lw_p9, List.forall_mem_cons.mpr ⟨lw_p10, List.forall_mem_cons.mpr ⟨lw_p11, List.forall_mem_cons.mpr ⟨lw_p12, List.forall_mem_cons.mpr ⟨lw_p13, List.forall_mem_cons.mpr ⟨lw_p14, List.forall_mem_cons.mpr ⟨lw_p15, fun _ h => absurd h List.not_mem_nil⟩⟩⟩⟩⟩⟩⟩⟩⟩⟩⟩⟩⟩⟩⟩⟩
theorem lw_p16 : lw_okq (⟨"ChainBooks$Pages", "learn", "(I)V"⟩, 8) := ⟨⟨by decide +kernel, by decide +kernel⟩, List.mem_of_getElem? (i := 145) (by decide +kernel), List.mem_of_getElem? (i := 580) (by decide +kernel), List.mem_of_getElem? (i := 581) (by decide +kernel)⟩
theorem lw_p17 : lw_okq (⟨"ChainBooks$Trail", "goDown", "(I)V"⟩, 15) := ⟨⟨by decide +kernel, by decide +kernel⟩, List.mem_of_getElem? (i := 222) (by decide +kernel), List.mem_of_getElem? (i := 617) (by decide +kernel), List.mem_of_getElem? (i := 618) (by decide +kernel)⟩
theorem lw_p18 : lw_okq (⟨"ChainBooks$Trail", "isEnd", "(I)Z"⟩, 15) := ⟨⟨by decide +kernel, by decide +kernel⟩, List.mem_of_getElem? (i := 222) (by decide +kernel), List.mem_of_getElem? (i := 621) (by decide +kernel), List.mem_of_getElem? (i := 622) (by decide +kernel)⟩
theorem lw_p19 : lw_okq (⟨"ChainBooks$Trail", "hasOwnBeginning", "()Z"⟩, 15) := ⟨⟨by decide +kernel, by decide +kernel⟩, List.mem_of_getElem? (i := 222) (by decide +kernel), List.mem_of_getElem? (i := 628) (by decide +kernel), List.mem_of_getElem? (i := 629) (by decide +kernel)⟩
theorem lw_p20 : lw_okq (⟨"ChainBooks", "isHeadOf", "(II)Z"⟩, 8) := ⟨⟨by decide +kernel, by decide +kernel⟩, List.mem_of_getElem? (i := 14) (by decide +kernel), List.mem_of_getElem? (i := 645) (by decide +kernel), List.mem_of_getElem? (i := 646) (by decide +kernel)⟩
theorem lw_p21 : lw_okq (⟨"ChainBooks$Trail", "goUp", "([I)V"⟩, 15) := ⟨⟨by decide +kernel, by decide +kernel⟩, List.mem_of_getElem? (i := 222) (by decide +kernel), List.mem_of_getElem? (i := 653) (by decide +kernel), List.mem_of_getElem? (i := 654) (by decide +kernel)⟩
theorem lw_p22 : lw_okq (⟨"ChainBooks$Auditor", "callAgain", "(LChainBooks$Pages;I)V"⟩, 2) := ⟨⟨by decide +kernel, by decide +kernel⟩, List.mem_of_getElem? (i := 283) (by decide +kernel), List.mem_of_getElem? (i := 682) (by decide +kernel), List.mem_of_getElem? (i := 683) (by decide +kernel)⟩
theorem lw_p23 : lw_okq (⟨"ChainBooks$Auditor", "readLegs", "(LChainBooks$Pages;I)Z"⟩, 2) := ⟨⟨by decide +kernel, by decide +kernel⟩, List.mem_of_getElem? (i := 283) (by decide +kernel), List.mem_of_getElem? (i := 691) (by decide +kernel), List.mem_of_getElem? (i := 692) (by decide +kernel)⟩
theorem lw_p24 : lw_okq (⟨"ChainBooks$Auditor", "stands", "(LChainBooks$Pages;I)Z"⟩, 2) := ⟨⟨by decide +kernel, by decide +kernel⟩, List.mem_of_getElem? (i := 283) (by decide +kernel), List.mem_of_getElem? (i := 701) (by decide +kernel), List.mem_of_getElem? (i := 702) (by decide +kernel)⟩
theorem lw_p25 : lw_okq (⟨"ChainBooks", "alteredBytes", "()I"⟩, 8) := ⟨⟨by decide +kernel, by decide +kernel⟩, List.mem_of_getElem? (i := 14) (by decide +kernel), List.mem_of_getElem? (i := 710) (by decide +kernel), List.mem_of_getElem? (i := 711) (by decide +kernel)⟩
theorem lw_p26 : lw_okq (⟨"ChainBooksModel", "begins", "(IJ)V"⟩, 67) := ⟨⟨by decide +kernel, by decide +kernel⟩, List.mem_of_getElem? (i := 714) (by decide +kernel), List.mem_of_getElem? (i := 990) (by decide +kernel), List.mem_of_getElem? (i := 991) (by decide +kernel)⟩
theorem lw_p27 : lw_okq (⟨"ChainBooksModel", "put", "(I)V"⟩, 67) := ⟨⟨by decide +kernel, by decide +kernel⟩, List.mem_of_getElem? (i := 714) (by decide +kernel), List.mem_of_getElem? (i := 994) (by decide +kernel), List.mem_of_getElem? (i := 995) (by decide +kernel)⟩
theorem lw_p28 : lw_okq (⟨"ChainBooksModel", "putLong", "(J)V"⟩, 67) := ⟨⟨by decide +kernel, by decide +kernel⟩, List.mem_of_getElem? (i := 714) (by decide +kernel), List.mem_of_getElem? (i := 998) (by decide +kernel), List.mem_of_getElem? (i := 999) (by decide +kernel)⟩
theorem lw_p29 : lw_okq (⟨"ChainBooksModel", "writes", "()V"⟩, 67) := ⟨⟨by decide +kernel, by decide +kernel⟩, List.mem_of_getElem? (i := 714) (by decide +kernel), List.mem_of_getElem? (i := 1003) (by decide +kernel), List.mem_of_getElem? (i := 1004) (by decide +kernel)⟩
theorem lw_p30 : lw_okq (⟨"ChainBooksModel", "does", "(I)I"⟩, 67) := ⟨⟨by decide +kernel, by decide +kernel⟩, List.mem_of_getElem? (i := 714) (by decide +kernel), List.mem_of_getElem? (i := 1007) (by decide +kernel), List.mem_of_getElem? (i := 1008) (by decide +kernel)⟩
theorem lw_p31 : lw_okq (⟨"ChainBooksModel", "hold", "(IIJI)V"⟩, 67) := ⟨⟨by decide +kernel, by decide +kernel⟩, List.mem_of_getElem? (i := 714) (by decide +kernel), List.mem_of_getElem? (i := 1011) (by decide +kernel), List.mem_of_getElem? (i := 1012) (by decide +kernel)⟩
def lw_privs_2 : List (MethodName × Nat) := [(⟨"ChainBooks$Pages", "learn", "(I)V"⟩, 8), (⟨"ChainBooks$Trail", "goDown", "(I)V"⟩, 15), (⟨"ChainBooks$Trail", "isEnd", "(I)Z"⟩, 15), (⟨"ChainBooks$Trail", "hasOwnBeginning", "()Z"⟩, 15), (⟨"ChainBooks", "isHeadOf", "(II)Z"⟩, 8), (⟨"ChainBooks$Trail", "goUp", "([I)V"⟩, 15), (⟨"ChainBooks$Auditor", "callAgain", "(LChainBooks$Pages;I)V"⟩, 2), (⟨"ChainBooks$Auditor", "readLegs", "(LChainBooks$Pages;I)Z"⟩, 2), (⟨"ChainBooks$Auditor", "stands", "(LChainBooks$Pages;I)Z"⟩, 2), (⟨"ChainBooks", "alteredBytes", "()I"⟩, 8), (⟨"ChainBooksModel", "begins", "(IJ)V"⟩, 67), (⟨"ChainBooksModel", "put", "(I)V"⟩, 67), (⟨"ChainBooksModel", "putLong", "(J)V"⟩, 67), (⟨"ChainBooksModel", "writes", "()V"⟩, 67), (⟨"ChainBooksModel", "does", "(I)I"⟩, 67), (⟨"ChainBooksModel", "hold", "(IIJI)V"⟩, 67)]
theorem lw_r2 : ∀ q ∈ lw_privs_2, lw_okq q := List.forall_mem_cons.mpr ⟨lw_p16, List.forall_mem_cons.mpr ⟨lw_p17, List.forall_mem_cons.mpr ⟨lw_p18, List.forall_mem_cons.mpr ⟨lw_p19, List.forall_mem_cons.mpr ⟨lw_p20, List.forall_mem_cons.mpr ⟨lw_p21, List.forall_mem_cons.mpr ⟨lw_p22, List.forall_mem_cons.mpr ⟨lw_p23, List.forall_mem_cons.mpr ⟨lw_p24, List.forall_mem_cons.mpr ⟨lw_p25, List.forall_mem_cons.mpr ⟨lw_p26, List.forall_mem_cons.mpr ⟨lw_p27, List.forall_mem_cons.mpr ⟨lw_p28, List.forall_mem_cons.mpr ⟨lw_p29, List.forall_mem_cons.mpr ⟨lw_p30, List.forall_mem_cons.mpr ⟨lw_p31, fun _ h => absurd h List.not_mem_nil⟩⟩⟩⟩⟩⟩⟩⟩⟩⟩⟩⟩⟩⟩⟩⟩
theorem lw_p32 : lw_okq (⟨"ChainBooksModel", "leg", "(IJI)V"⟩, 67) := ⟨⟨by decide +kernel, by decide +kernel⟩, List.mem_of_getElem? (i := 714) (by decide +kernel), List.mem_of_getElem? (i := 1032) (by decide +kernel), List.mem_of_getElem? (i := 1033) (by decide +kernel)⟩
theorem lw_p33 : lw_okq (⟨"ChainBooksModel", "calls", "()I"⟩, 67) := ⟨⟨by decide +kernel, by decide +kernel⟩, List.mem_of_getElem? (i := 714) (by decide +kernel), List.mem_of_getElem? (i := 1036) (by decide +kernel), List.mem_of_getElem? (i := 1037) (by decide +kernel)⟩
theorem lw_p34 : lw_okq (⟨"ChainBooksModel", "byKey", "(IJ)I"⟩, 67) := ⟨⟨by decide +kernel, by decide +kernel⟩, List.mem_of_getElem? (i := 714) (by decide +kernel), List.mem_of_getElem? (i := 1040) (by decide +kernel), List.mem_of_getElem? (i := 1041) (by decide +kernel)⟩
theorem lw_p35 : lw_okq (⟨"ChainBooksModel", "isSame", "(I)Z"⟩, 67) := ⟨⟨by decide +kernel, by decide +kernel⟩, List.mem_of_getElem? (i := 714) (by decide +kernel), List.mem_of_getElem? (i := 1044) (by decide +kernel), List.mem_of_getElem? (i := 1045) (by decide +kernel)⟩
theorem lw_p36 : lw_okq (⟨"ChainBooksModel", "refused", "(I)I"⟩, 67) := ⟨⟨by decide +kernel, by decide +kernel⟩, List.mem_of_getElem? (i := 714) (by decide +kernel), List.mem_of_getElem? (i := 1048) (by decide +kernel), List.mem_of_getElem? (i := 1049) (by decide +kernel)⟩
theorem lw_p37 : lw_okq (⟨"ChainBooksModel", "isUnknown", "(I)Z"⟩, 67) := ⟨⟨by decide +kernel, by decide +kernel⟩, List.mem_of_getElem? (i := 714) (by decide +kernel), List.mem_of_getElem? (i := 1052) (by decide +kernel), List.mem_of_getElem? (i := 1053) (by decide +kernel)⟩
theorem lw_p38 : lw_okq (⟨"ChainBooksModel", "isAccount", "(II)Z"⟩, 67) := ⟨⟨by decide +kernel, by decide +kernel⟩, List.mem_of_getElem? (i := 714) (by decide +kernel), List.mem_of_getElem? (i := 1056) (by decide +kernel), List.mem_of_getElem? (i := 1057) (by decide +kernel)⟩
theorem lw_p39 : lw_okq (⟨"ChainBooksModel", "isHold", "(II)Z"⟩, 67) := ⟨⟨by decide +kernel, by decide +kernel⟩, List.mem_of_getElem? (i := 714) (by decide +kernel), List.mem_of_getElem? (i := 1060) (by decide +kernel), List.mem_of_getElem? (i := 1061) (by decide +kernel)⟩
theorem lw_p40 : lw_okq (⟨"ChainBooksModel", "isUneven", "()Z"⟩, 67) := ⟨⟨by decide +kernel, by decide +kernel⟩, List.mem_of_getElem? (i := 714) (by decide +kernel), List.mem_of_getElem? (i := 1064) (by decide +kernel), List.mem_of_getElem? (i := 1065) (by decide +kernel)⟩
theorem lw_p41 : lw_okq (⟨"ChainBooksModel", "isOver", "(I)Z"⟩, 67) := ⟨⟨by decide +kernel, by decide +kernel⟩, List.mem_of_getElem? (i := 714) (by decide +kernel), List.mem_of_getElem? (i := 1068) (by decide +kernel), List.mem_of_getElem? (i := 1069) (by decide +kernel)⟩
theorem lw_p42 : lw_okq (⟨"ChainBooksModel", "isBelow", "(II)Z"⟩, 67) := ⟨⟨by decide +kernel, by decide +kernel⟩, List.mem_of_getElem? (i := 714) (by decide +kernel), List.mem_of_getElem? (i := 1072) (by decide +kernel), List.mem_of_getElem? (i := 1073) (by decide +kernel)⟩
theorem lw_p43 : lw_okq (⟨"ChainBooksModel", "trial", "(I)V"⟩, 67) := ⟨⟨by decide +kernel, by decide +kernel⟩, List.mem_of_getElem? (i := 714) (by decide +kernel), List.mem_of_getElem? (i := 1076) (by decide +kernel), List.mem_of_getElem? (i := 1077) (by decide +kernel)⟩
theorem lw_p44 : lw_okq (⟨"ChainBooksModel", "putShort", "(I)V"⟩, 67) := ⟨⟨by decide +kernel, by decide +kernel⟩, List.mem_of_getElem? (i := 714) (by decide +kernel), List.mem_of_getElem? (i := 1088) (by decide +kernel), List.mem_of_getElem? (i := 1089) (by decide +kernel)⟩
theorem lw_p45 : lw_okq (⟨"ChainBooksModel", "chain", "(I)V"⟩, 67) := ⟨⟨by decide +kernel, by decide +kernel⟩, List.mem_of_getElem? (i := 714) (by decide +kernel), List.mem_of_getElem? (i := 1124) (by decide +kernel), List.mem_of_getElem? (i := 1125) (by decide +kernel)⟩
theorem lw_p46 : lw_okq (⟨"ChainBooksModel", "says", "(I)V"⟩, 67) := ⟨⟨by decide +kernel, by decide +kernel⟩, List.mem_of_getElem? (i := 714) (by decide +kernel), List.mem_of_getElem? (i := 1128) (by decide +kernel), List.mem_of_getElem? (i := 1129) (by decide +kernel)⟩
theorem lw_p47 : lw_okq (⟨"ChainBooksModel", "saysEntry", "(I)V"⟩, 67) := ⟨⟨by decide +kernel, by decide +kernel⟩, List.mem_of_getElem? (i := 714) (by decide +kernel), List.mem_of_getElem? (i := 1132) (by decide +kernel), List.mem_of_getElem? (i := 1133) (by decide +kernel)⟩
def lw_privs_3 : List (MethodName × Nat) := [(⟨"ChainBooksModel", "leg", "(IJI)V"⟩, 67), (⟨"ChainBooksModel", "calls", "()I"⟩, 67), (⟨"ChainBooksModel", "byKey", "(IJ)I"⟩, 67), (⟨"ChainBooksModel", "isSame", "(I)Z"⟩, 67), (⟨"ChainBooksModel", "refused", "(I)I"⟩, 67), (⟨"ChainBooksModel", "isUnknown", "(I)Z"⟩, 67), (⟨"ChainBooksModel", "isAccount", "(II)Z"⟩, 67), (⟨"ChainBooksModel", "isHold", "(II)Z"⟩, 67), (⟨"ChainBooksModel", "isUneven", "()Z"⟩, 67), (⟨"ChainBooksModel", "isOver", "(I)Z"⟩, 67), (⟨"ChainBooksModel", "isBelow", "(II)Z"⟩, 67), (⟨"ChainBooksModel", "trial", "(I)V"⟩, 67), (⟨"ChainBooksModel", "putShort", "(I)V"⟩, 67), (⟨"ChainBooksModel", "chain", "(I)V"⟩, 67), (⟨"ChainBooksModel", "says", "(I)V"⟩, 67), (⟨"ChainBooksModel", "saysEntry", "(I)V"⟩, 67)]
theorem lw_r3 : ∀ q ∈ lw_privs_3, lw_okq q := List.forall_mem_cons.mpr ⟨lw_p32, List.forall_mem_cons.mpr ⟨lw_p33, List.forall_mem_cons.mpr ⟨lw_p34, List.forall_mem_cons.mpr ⟨lw_p35, List.forall_mem_cons.mpr ⟨lw_p36, List.forall_mem_cons.mpr ⟨lw_p37, List.forall_mem_cons.mpr ⟨lw_p38, List.forall_mem_cons.mpr ⟨lw_p39, List.forall_mem_cons.mpr ⟨lw_p40, List.forall_mem_cons.mpr ⟨lw_p41, List.forall_mem_cons.mpr ⟨lw_p42, List.forall_mem_cons.mpr ⟨lw_p43, List.forall_mem_cons.mpr ⟨lw_p44, List.forall_mem_cons.mpr ⟨lw_p45, List.forall_mem_cons.mpr ⟨lw_p46, List.forall_mem_cons.mpr ⟨lw_p47, fun _ h => absurd h List.not_mem_nil⟩⟩⟩⟩⟩⟩⟩⟩⟩⟩⟩⟩⟩⟩⟩⟩
theorem lw_p48 : lw_okq (⟨"ChainBooksModel", "sum", "()V"⟩, 67) := ⟨⟨by decide +kernel, by decide +kernel⟩, List.mem_of_getElem? (i := 714) (by decide +kernel), List.mem_of_getElem? (i := 1136) (by decide +kernel), List.mem_of_getElem? (i := 1137) (by decide +kernel)⟩
theorem lw_p49 : lw_okq (⟨"ChainBooksModel", "block", "(I)V"⟩, 67) := ⟨⟨by decide +kernel, by decide +kernel⟩, List.mem_of_getElem? (i := 714) (by decide +kernel), List.mem_of_getElem? (i := 1148) (by decide +kernel), List.mem_of_getElem? (i := 1149) (by decide +kernel)⟩
theorem lw_p50 : lw_okq (⟨"ChainBooksModel", "tree", "(II)V"⟩, 67) := ⟨⟨by decide +kernel, by decide +kernel⟩, List.mem_of_getElem? (i := 714) (by decide +kernel), List.mem_of_getElem? (i := 1155) (by decide +kernel), List.mem_of_getElem? (i := 1156) (by decide +kernel)⟩
theorem lw_p51 : lw_okq (⟨"ChainBooksModel", "leaf", "(I)V"⟩, 67) := ⟨⟨by decide +kernel, by decide +kernel⟩, List.mem_of_getElem? (i := 714) (by decide +kernel), List.mem_of_getElem? (i := 1159) (by decide +kernel), List.mem_of_getElem? (i := 1160) (by decide +kernel)⟩
theorem lw_p52 : lw_okq (⟨"ChainBooksModel", "joins", "(I)V"⟩, 67) := ⟨⟨by decide +kernel, by decide +kernel⟩, List.mem_of_getElem? (i := 714) (by decide +kernel), List.mem_of_getElem? (i := 1163) (by decide +kernel), List.mem_of_getElem? (i := 1164) (by decide +kernel)⟩
theorem lw_p53 : lw_okq (⟨"ChainBooksModel", "keepWait", "(I)V"⟩, 67) := ⟨⟨by decide +kernel, by decide +kernel⟩, List.mem_of_getElem? (i := 714) (by decide +kernel), List.mem_of_getElem? (i := 1167) (by decide +kernel), List.mem_of_getElem? (i := 1168) (by decide +kernel)⟩
theorem lw_p54 : lw_okq (⟨"ChainBooksModel", "isAs", "([II)Z"⟩, 67) := ⟨⟨by decide +kernel, by decide +kernel⟩, List.mem_of_getElem? (i := 714) (by decide +kernel), List.mem_of_getElem? (i := 1179) (by decide +kernel), List.mem_of_getElem? (i := 1180) (by decide +kernel)⟩
theorem lw_p55 : lw_okq (⟨"ChainBooksModel", "down", "(IIZ)V"⟩, 67) := ⟨⟨by decide +kernel, by decide +kernel⟩, List.mem_of_getElem? (i := 714) (by decide +kernel), List.mem_of_getElem? (i := 1187) (by decide +kernel), List.mem_of_getElem? (i := 1188) (by decide +kernel)⟩
theorem lw_p56 : lw_okq (⟨"ChainBooksModel", "sides", "()V"⟩, 67) := ⟨⟨by decide +kernel, by decide +kernel⟩, List.mem_of_getElem? (i := 714) (by decide +kernel), List.mem_of_getElem? (i := 1194) (by decide +kernel), List.mem_of_getElem? (i := 1195) (by decide +kernel)⟩
theorem lw_p57 : lw_okq (⟨"ChainBooksModel", "step", "()V"⟩, 67) := ⟨⟨by decide +kernel, by decide +kernel⟩, List.mem_of_getElem? (i := 714) (by decide +kernel), List.mem_of_getElem? (i := 1198) (by decide +kernel), List.mem_of_getElem? (i := 1199) (by decide +kernel)⟩
theorem lw_p58 : lw_okq (⟨"ChainBooksModel", "isHeadOf", "(II)Z"⟩, 67) := ⟨⟨by decide +kernel, by decide +kernel⟩, List.mem_of_getElem? (i := 714) (by decide +kernel), List.mem_of_getElem? (i := 1214) (by decide +kernel), List.mem_of_getElem? (i := 1215) (by decide +kernel)⟩
theorem lw_p59 : lw_okq (⟨"ChainBooksModel", "beside", "([IIZ)V"⟩, 67) := ⟨⟨by decide +kernel, by decide +kernel⟩, List.mem_of_getElem? (i := 714) (by decide +kernel), List.mem_of_getElem? (i := 1218) (by decide +kernel), List.mem_of_getElem? (i := 1219) (by decide +kernel)⟩
theorem lw_p60 : lw_okq (⟨"ChainBooksModel", "isHead", "([II)Z"⟩, 67) := ⟨⟨by decide +kernel, by decide +kernel⟩, List.mem_of_getElem? (i := 714) (by decide +kernel), List.mem_of_getElem? (i := 1222) (by decide +kernel), List.mem_of_getElem? (i := 1223) (by decide +kernel)⟩
theorem lw_p61 : lw_okq (⟨"ChainBooksModel", "tells", "(I)I"⟩, 67) := ⟨⟨by decide +kernel, by decide +kernel⟩, List.mem_of_getElem? (i := 714) (by decide +kernel), List.mem_of_getElem? (i := 1230) (by decide +kernel), List.mem_of_getElem? (i := 1231) (by decide +kernel)⟩
theorem lw_p62 : lw_okq (⟨"ChainBooksModel", "sizeOf", "(I)I"⟩, 67) := ⟨⟨by decide +kernel, by decide +kernel⟩, List.mem_of_getElem? (i := 714) (by decide +kernel), List.mem_of_getElem? (i := 1234) (by decide +kernel), List.mem_of_getElem? (i := 1235) (by decide +kernel)⟩
theorem lw_p63 : lw_okq (⟨"ChainBooksModel", "isTrial", "()Z"⟩, 67) := ⟨⟨by decide +kernel, by decide +kernel⟩, List.mem_of_getElem? (i := 714) (by decide +kernel), List.mem_of_getElem? (i := 1238) (by decide +kernel), List.mem_of_getElem? (i := 1239) (by decide +kernel)⟩
def lw_privs_4 : List (MethodName × Nat) := [(⟨"ChainBooksModel", "sum", "()V"⟩, 67), (⟨"ChainBooksModel", "block", "(I)V"⟩, 67), (⟨"ChainBooksModel", "tree", "(II)V"⟩, 67), (⟨"ChainBooksModel", "leaf", "(I)V"⟩, 67), (⟨"ChainBooksModel", "joins", "(I)V"⟩, 67), (⟨"ChainBooksModel", "keepWait", "(I)V"⟩, 67), (⟨"ChainBooksModel", "isAs", "([II)Z"⟩, 67), (⟨"ChainBooksModel", "down", "(IIZ)V"⟩, 67), (⟨"ChainBooksModel", "sides", "()V"⟩, 67), (⟨"ChainBooksModel", "step", "()V"⟩, 67), (⟨"ChainBooksModel", "isHeadOf", "(II)Z"⟩, 67), (⟨"ChainBooksModel", "beside", "([IIZ)V"⟩, 67), (⟨"ChainBooksModel", "isHead", "([II)Z"⟩, 67), (⟨"ChainBooksModel", "tells", "(I)I"⟩, 67), (⟨"ChainBooksModel", "sizeOf", "(I)I"⟩, 67), (⟨"ChainBooksModel", "isTrial", "()Z"⟩, 67)]
theorem lw_r4 : ∀ q ∈ lw_privs_4, lw_okq q := List.forall_mem_cons.mpr ⟨lw_p48, List.forall_mem_cons.mpr ⟨lw_p49, List.forall_mem_cons.mpr ⟨lw_p50, List.forall_mem_cons.mpr ⟨lw_p51, List.forall_mem_cons.mpr ⟨lw_p52, List.forall_mem_cons.mpr ⟨lw_p53, List.forall_mem_cons.mpr ⟨lw_p54, List.forall_mem_cons.mpr ⟨lw_p55, List.forall_mem_cons.mpr ⟨lw_p56, List.forall_mem_cons.mpr ⟨lw_p57, List.forall_mem_cons.mpr ⟨lw_p58, List.forall_mem_cons.mpr ⟨lw_p59, List.forall_mem_cons.mpr ⟨lw_p60, List.forall_mem_cons.mpr ⟨lw_p61, List.forall_mem_cons.mpr ⟨lw_p62, List.forall_mem_cons.mpr ⟨lw_p63, fun _ h => absurd h List.not_mem_nil⟩⟩⟩⟩⟩⟩⟩⟩⟩⟩⟩⟩⟩⟩⟩⟩
theorem lw_p64 : lw_okq (⟨"ChainBooksModel", "reads", "()Z"⟩, 67) := ⟨⟨by decide +kernel, by decide +kernel⟩, List.mem_of_getElem? (i := 714) (by decide +kernel), List.mem_of_getElem? (i := 1242) (by decide +kernel), List.mem_of_getElem? (i := 1243) (by decide +kernel)⟩
theorem lw_p65 : lw_okq (⟨"ChainBooksModel", "number", "(I)J"⟩, 67) := ⟨⟨by decide +kernel, by decide +kernel⟩, List.mem_of_getElem? (i := 714) (by decide +kernel), List.mem_of_getElem? (i := 1246) (by decide +kernel), List.mem_of_getElem? (i := 1247) (by decide +kernel)⟩
theorem lw_p66 : lw_okq (⟨"ChainBooksModel", "readsLegs", "()Z"⟩, 67) := ⟨⟨by decide +kernel, by decide +kernel⟩, List.mem_of_getElem? (i := 714) (by decide +kernel), List.mem_of_getElem? (i := 1250) (by decide +kernel), List.mem_of_getElem? (i := 1251) (by decide +kernel)⟩
theorem lw_p67 : lw_okq (⟨"ChainBooksModel", "there", "()I"⟩, 67) := ⟨⟨by decide +kernel, by decide +kernel⟩, List.mem_of_getElem? (i := 714) (by decide +kernel), List.mem_of_getElem? (i := 1258) (by decide +kernel), List.mem_of_getElem? (i := 1259) (by decide +kernel)⟩
theorem lw_p68 : lw_okq (⟨"ChainBooksModel", "altered", "()I"⟩, 67) := ⟨⟨by decide +kernel, by decide +kernel⟩, List.mem_of_getElem? (i := 714) (by decide +kernel), List.mem_of_getElem? (i := 1262) (by decide +kernel), List.mem_of_getElem? (i := 1263) (by decide +kernel)⟩
def lw_privs_5 : List (MethodName × Nat) := [(⟨"ChainBooksModel", "reads", "()Z"⟩, 67), (⟨"ChainBooksModel", "number", "(I)J"⟩, 67), (⟨"ChainBooksModel", "readsLegs", "()Z"⟩, 67), (⟨"ChainBooksModel", "there", "()I"⟩, 67), (⟨"ChainBooksModel", "altered", "()I"⟩, 67)]
theorem lw_r5 : ∀ q ∈ lw_privs_5, lw_okq q := List.forall_mem_cons.mpr ⟨lw_p64, List.forall_mem_cons.mpr ⟨lw_p65, List.forall_mem_cons.mpr ⟨lw_p66, List.forall_mem_cons.mpr ⟨lw_p67, List.forall_mem_cons.mpr ⟨lw_p68, fun _ h => absurd h List.not_mem_nil⟩⟩⟩⟩⟩
def lw_privs : List (MethodName × Nat) := lw_privs_1 ++ (lw_privs_2 ++ (lw_privs_3 ++ (lw_privs_4 ++ (lw_privs_5))))
def lw_tbl : List Cond := k2_sels lw_privs ++ tables_1
theorem lw_privs_ok : ∀ q ∈ lw_privs, lw_okq q := by
  show ∀ q ∈ lw_privs_1 ++ (lw_privs_2 ++ (lw_privs_3 ++ (lw_privs_4 ++ (lw_privs_5)))), lw_okq q
  exact List.forall_mem_append.mpr ⟨lw_r1, List.forall_mem_append.mpr ⟨lw_r2, List.forall_mem_append.mpr ⟨lw_r3, List.forall_mem_append.mpr ⟨lw_r4, lw_r5⟩⟩⟩⟩
end
section
/-- the words that a method keeps through its calls -/
def lwT : List Cond := lw_tbl.filter goodWord
theorem tn1 {w : Cond} (h : w ∈ tables_1_1) : w ∈ lw_tbl := List.mem_append_right _ (show w ∈ tables_1 from List.mem_append_left _ h)
theorem tb1 {w : Cond} (h : w ∈ tables_1_1) (g : goodWord w = true) : w ∈ lwT := List.mem_filter.mpr ⟨tn1 h, g⟩
theorem tn2 {w : Cond} (h : w ∈ tables_1_2) : w ∈ lw_tbl := List.mem_append_right _ (show w ∈ tables_1 from List.mem_append_right _ (List.mem_append_left _ h))
theorem tb2 {w : Cond} (h : w ∈ tables_1_2) (g : goodWord w = true) : w ∈ lwT := List.mem_filter.mpr ⟨tn2 h, g⟩
theorem tn3 {w : Cond} (h : w ∈ tables_1_3) : w ∈ lw_tbl := List.mem_append_right _ (show w ∈ tables_1 from List.mem_append_right _ (List.mem_append_right _ (List.mem_append_left _ h)))
theorem tb3 {w : Cond} (h : w ∈ tables_1_3) (g : goodWord w = true) : w ∈ lwT := List.mem_filter.mpr ⟨tn3 h, g⟩
theorem tn4 {w : Cond} (h : w ∈ tables_1_4) : w ∈ lw_tbl := List.mem_append_right _ (show w ∈ tables_1 from List.mem_append_right _ (List.mem_append_right _ (List.mem_append_right _ (List.mem_append_left _ h))))
theorem tb4 {w : Cond} (h : w ∈ tables_1_4) (g : goodWord w = true) : w ∈ lwT := List.mem_filter.mpr ⟨tn4 h, g⟩
theorem tn5 {w : Cond} (h : w ∈ tables_1_5) : w ∈ lw_tbl := List.mem_append_right _ (show w ∈ tables_1 from List.mem_append_right _ (List.mem_append_right _ (List.mem_append_right _ (List.mem_append_right _ (List.mem_append_left _ h)))))
theorem tb5 {w : Cond} (h : w ∈ tables_1_5) (g : goodWord w = true) : w ∈ lwT := List.mem_filter.mpr ⟨tn5 h, g⟩
theorem tn6 {w : Cond} (h : w ∈ tables_1_6) : w ∈ lw_tbl := List.mem_append_right _ (show w ∈ tables_1 from List.mem_append_right _ (List.mem_append_right _ (List.mem_append_right _ (List.mem_append_right _ (List.mem_append_right _ (h))))))
theorem tb6 {w : Cond} (h : w ∈ tables_1_6) (g : goodWord w = true) : w ∈ lwT := List.mem_filter.mpr ⟨tn6 h, g⟩
theorem tb0 {w : Cond} (h : w ∈ k2_sels lw_privs) (g : goodWord w = true) : w ∈ lwT := List.mem_filter.mpr ⟨List.mem_append_left _ h, g⟩
def RX0 : String := "ChainBooks$Auditor"
def TX0 : u_T := fun k => match k with
  | 0 => ("ChainBooks$Auditor", "mirror", "LChainBooks$Ledger;", true)
  | _ => ("ChainBooks$Auditor", "legs", "LChainBooks$Legs;", true)
def tyX0 : Nat → FieldType := fun k => match k with
  | 0 => .object "ChainBooks$Ledger"
  | _ => .object "ChainBooks$Legs"
abbrev wsX00 : List Cond := u_ws RX0 TX0 2
theorem nmX0 : ∀ a, a < 2 → ∀ b, b < 2 → a ≠ b → (TX0 a).2.1 ≠ (TX0 b).2.1 := by decide +kernel
theorem tyX0_ok : ∀ k, k < 2 → parseFieldDescriptor (TX0 k).2.2.1 = some (tyX0 k) := by decide +kernel
abbrev cX0_init : ByteArray := prog_2_method_1_code
def yX0_init : MethodName := ⟨RX0, "<init>", "()V"⟩
abbrev cX0_firstBad : ByteArray := prog_2_method_2_code
def yX0_firstBad : MethodName := ⟨RX0, "firstBad", "(LChainBooks$Pages;[I)I"⟩
abbrev cX0_callAgain : ByteArray := prog_2_method_3_code
def yX0_callAgain : MethodName := ⟨RX0, "callAgain", "(LChainBooks$Pages;I)V"⟩
abbrev cX0_readLegs : ByteArray := prog_2_method_4_code
def yX0_readLegs : MethodName := ⟨RX0, "readLegs", "(LChainBooks$Pages;I)Z"⟩
abbrev cX0_stands : ByteArray := prog_2_method_5_code
def yX0_stands : MethodName := ⟨RX0, "stands", "(LChainBooks$Pages;I)Z"⟩
def RX1 : String := "ChainBooks$Draft"
def TX1 : u_T := fun k => match k with
  | 0 => ("ChainBooks$Draft", "bytes", "[B", true)
  | _ => ("ChainBooks$Draft", "size", "I", false)
def tyX1 : Nat → FieldType := fun k => match k with
  | 0 => .array .byte
  | _ => .int
abbrev wsX10 : List Cond := u_ws RX1 TX1 2
theorem nmX1 : ∀ a, a < 2 → ∀ b, b < 2 → a ≠ b → (TX1 a).2.1 ≠ (TX1 b).2.1 := by decide +kernel
theorem tyX1_ok : ∀ k, k < 2 → parseFieldDescriptor (TX1 k).2.2.1 = some (tyX1 k) := by decide +kernel
abbrev cX1_init : ByteArray := prog_3_method_1_code
def yX1_init : MethodName := ⟨RX1, "<init>", "()V"⟩
abbrev cX1_begin : ByteArray := prog_3_method_2_code
def yX1_begin : MethodName := ⟨RX1, "begin", "(I)V"⟩
abbrev cX1_beginKeyed : ByteArray := prog_3_method_3_code
def yX1_beginKeyed : MethodName := ⟨RX1, "beginKeyed", "(IJ)V"⟩
abbrev cX1_add : ByteArray := prog_3_method_4_code
def yX1_add : MethodName := ⟨RX1, "add", "(JI)V"⟩
def RX2 : String := "ChainBooks$Head"
def TX2 : u_T := fun k => match k with
  | 0 => ("ChainBooks$Head", "chain", "[I", true)
  | 1 => ("ChainBooks$Head", "tree", "[I", true)
  | _ => ("ChainBooks$Head", "entries", "I", false)
def tyX2 : Nat → FieldType := fun k => match k with
  | 0 => .array .int
  | 1 => .array .int
  | _ => .int
abbrev wsX20 : List Cond := u_ws RX2 TX2 3
theorem nmX2 : ∀ a, a < 3 → ∀ b, b < 3 → a ≠ b → (TX2 a).2.1 ≠ (TX2 b).2.1 := by decide +kernel
theorem tyX2_ok : ∀ k, k < 3 → parseFieldDescriptor (TX2 k).2.2.1 = some (tyX2 k) := by decide +kernel
abbrev cX2_init : ByteArray := prog_4_method_1_code
def yX2_init : MethodName := ⟨RX2, "<init>", "()V"⟩
def RX3 : String := "ChainBooks$Ledger"
def TX3 : u_T := fun k => match k with
  | 0 => ("ChainBooks$Ledger", "floor", "[J", true)
  | 1 => ("ChainBooks$Ledger", "balance", "[J", true)
  | 2 => ("ChainBooks$Ledger", "held", "[J", true)
  | 3 => ("ChainBooks$Ledger", "balanceBehind", "[J", true)
  | 4 => ("ChainBooks$Ledger", "accounts", "I", false)
  | 5 => ("ChainBooks$Ledger", "made", "[B", true)
  | 6 => ("ChainBooks$Ledger", "start", "[I", true)
  | 7 => ("ChainBooks$Ledger", "keys", "[J", true)
  | 8 => ("ChainBooks$Ledger", "endedBy", "[I", true)
  | 9 => ("ChainBooks$Ledger", "legCount", "[I", true)
  | 10 => ("ChainBooks$Ledger", "legAccount", "[I", true)
  | 11 => ("ChainBooks$Ledger", "legAmount", "[J", true)
  | 12 => ("ChainBooks$Ledger", "entries", "I", false)
  | 13 => ("ChainBooks$Ledger", "draft", "LChainBooks$Draft;", true)
  | 14 => ("ChainBooks$Ledger", "moving", "LChainBooks$Legs;", true)
  | 15 => ("ChainBooks$Ledger", "holdsThere", "I", false)
  | 16 => ("ChainBooks$Ledger", "every", "I", false)
  | _ => ("ChainBooks$Ledger", "sinceTrial", "I", false)
def tyX3 : Nat → FieldType := fun k => match k with
  | 0 => .array .long
  | 1 => .array .long
  | 2 => .array .long
  | 3 => .array .long
  | 4 => .int
  | 5 => .array .byte
  | 6 => .array .int
  | 7 => .array .long
  | 8 => .array .int
  | 9 => .array .int
  | 10 => .array .int
  | 11 => .array .long
  | 12 => .int
  | 13 => .object "ChainBooks$Draft"
  | 14 => .object "ChainBooks$Legs"
  | 15 => .int
  | 16 => .int
  | _ => .int
abbrev wsX30 : List Cond := u_ws RX3 TX3 18
theorem nmX3 : ∀ a, a < 18 → ∀ b, b < 18 → a ≠ b → (TX3 a).2.1 ≠ (TX3 b).2.1 := by decide +kernel
theorem tyX3_ok : ∀ k, k < 18 → parseFieldDescriptor (TX3 k).2.2.1 = some (tyX3 k) := by decide +kernel
abbrev cX3_init : ByteArray := prog_5_method_1_code
def yX3_init : MethodName := ⟨RX3, "<init>", "()V"⟩
abbrev cX3_startAnew : ByteArray := prog_5_method_2_code
def yX3_startAnew : MethodName := ⟨RX3, "startAnew", "()V"⟩
abbrev cX3_startEvery : ByteArray := prog_5_method_3_code
def yX3_startEvery : MethodName := ⟨RX3, "startEvery", "(I)V"⟩
abbrev cX3_addAccount : ByteArray := prog_5_method_4_code
def yX3_addAccount : MethodName := ⟨RX3, "addAccount", "(J)I"⟩
abbrev cX3_addPost : ByteArray := prog_5_method_5_code
def yX3_addPost : MethodName := ⟨RX3, "addPost", "(JLChainBooks$Legs;)I"⟩
abbrev cX3_addHold : ByteArray := prog_5_method_6_code
def yX3_addHold : MethodName := ⟨RX3, "addHold", "(JIJ)I"⟩
abbrev cX3_addRelease : ByteArray := prog_5_method_7_code
def yX3_addRelease : MethodName := ⟨RX3, "addRelease", "(I)I"⟩
abbrev cX3_addCapture : ByteArray := prog_5_method_8_code
def yX3_addCapture : MethodName := ⟨RX3, "addCapture", "(JIIJ)I"⟩
abbrev cX3_addReversal : ByteArray := prog_5_method_9_code
def yX3_addReversal : MethodName := ⟨RX3, "addReversal", "(JI)I"⟩
abbrev cX3_kindOf : ByteArray := prog_5_method_10_code
def yX3_kindOf : MethodName := ⟨RX3, "kindOf", "(I)I"⟩
abbrev cX3_answeredBefore : ByteArray := prog_5_method_11_code
def yX3_answeredBefore : MethodName := ⟨RX3, "answeredBefore", "(J)I"⟩
abbrev cX3_isAsDrafted : ByteArray := prog_5_method_12_code
def yX3_isAsDrafted : MethodName := ⟨RX3, "isAsDrafted", "(I)Z"⟩
abbrev cX3_areThere : ByteArray := prog_5_method_13_code
def yX3_areThere : MethodName := ⟨RX3, "areThere", "(LChainBooks$Legs;)Z"⟩
abbrev cX3_weigh : ByteArray := prog_5_method_14_code
def yX3_weigh : MethodName := ⟨RX3, "weigh", "(LChainBooks$Legs;IJ)I"⟩
abbrev cX3_move : ByteArray := prog_5_method_15_code
def yX3_move : MethodName := ⟨RX3, "move", "(JLChainBooks$Legs;)I"⟩
abbrev cX3_addTrial : ByteArray := prog_5_method_16_code
def yX3_addTrial : MethodName := ⟨RX3, "addTrial", "()V"⟩
abbrev cX3_isHoldThere : ByteArray := prog_5_method_17_code
def yX3_isHoldThere : MethodName := ⟨RX3, "isHoldThere", "(I)Z"⟩
abbrev cX3_accountHeld : ByteArray := prog_5_method_18_code
def yX3_accountHeld : MethodName := ⟨RX3, "accountHeld", "(I)I"⟩
abbrev cX3_amountHeld : ByteArray := prog_5_method_19_code
def yX3_amountHeld : MethodName := ⟨RX3, "amountHeld", "(I)J"⟩
abbrev cX3_endHold : ByteArray := prog_5_method_20_code
def yX3_endHold : MethodName := ⟨RX3, "endHold", "(II)V"⟩
abbrev cX3_append : ByteArray := prog_5_method_21_code
def yX3_append : MethodName := ⟨RX3, "append", "(J)I"⟩
def RX4 : String := "ChainBooks$Legs"
def TX4 : u_T := fun k => match k with
  | 0 => ("ChainBooks$Legs", "account", "[I", true)
  | 1 => ("ChainBooks$Legs", "amount", "[J", true)
  | _ => ("ChainBooks$Legs", "size", "I", false)
def tyX4 : Nat → FieldType := fun k => match k with
  | 0 => .array .int
  | 1 => .array .long
  | _ => .int
abbrev wsX40 : List Cond := u_ws RX4 TX4 3
theorem nmX4 : ∀ a, a < 3 → ∀ b, b < 3 → a ≠ b → (TX4 a).2.1 ≠ (TX4 b).2.1 := by decide +kernel
theorem tyX4_ok : ∀ k, k < 3 → parseFieldDescriptor (TX4 k).2.2.1 = some (tyX4 k) := by decide +kernel
abbrev cX4_init : ByteArray := prog_6_method_1_code
def yX4_init : MethodName := ⟨RX4, "<init>", "()V"⟩
abbrev cX4_add : ByteArray := prog_6_method_2_code
def yX4_add : MethodName := ⟨RX4, "add", "(IJ)Z"⟩
abbrev cX4_comeToNothing : ByteArray := prog_6_method_3_code
def yX4_comeToNothing : MethodName := ⟨RX4, "comeToNothing", "()Z"⟩
def RX5 : String := "ChainBooks$Pages"
def TX5 : u_T := fun k => match k with
  | 0 => ("ChainBooks$Pages", "now", "[B", true)
  | 1 => ("ChainBooks$Pages", "start", "[I", true)
  | 2 => ("ChainBooks$Pages", "entries", "I", false)
  | 3 => ("ChainBooks$Pages", "sha", "LChainBooks$Sha;", true)
  | 4 => ("ChainBooks$Pages", "chain", "[[I", true)
  | 5 => ("ChainBooks$Pages", "chained", "I", false)
  | 6 => ("ChainBooks$Pages", "nodes", "[[I", true)
  | _ => ("ChainBooks$Pages", "known", "[Z", true)
def tyX5 : Nat → FieldType := fun k => match k with
  | 0 => .array .byte
  | 1 => .array .int
  | 2 => .int
  | 3 => .object "ChainBooks$Sha"
  | 4 => .array (.array .int)
  | 5 => .int
  | 6 => .array (.array .int)
  | _ => .array .boolean
abbrev wsX50 : List Cond := u_ws RX5 TX5 8
theorem nmX5 : ∀ a, a < 8 → ∀ b, b < 8 → a ≠ b → (TX5 a).2.1 ≠ (TX5 b).2.1 := by decide +kernel
theorem tyX5_ok : ∀ k, k < 8 → parseFieldDescriptor (TX5 k).2.2.1 = some (tyX5 k) := by decide +kernel
abbrev cX5_init : ByteArray := prog_7_method_1_code
def yX5_init : MethodName := ⟨RX5, "<init>", "()V"⟩
abbrev cX5_size : ByteArray := prog_7_method_2_code
def yX5_size : MethodName := ⟨RX5, "size", "()I"⟩
abbrev cX5_follow : ByteArray := prog_7_method_3_code
def yX5_follow : MethodName := ⟨RX5, "follow", "(LChainBooks$Ledger;)V"⟩
abbrev cX5_number : ByteArray := prog_7_method_4_code
def yX5_number : MethodName := ⟨RX5, "number", "(II)J"⟩
abbrev cX5_flip : ByteArray := prog_7_method_5_code
def yX5_flip : MethodName := ⟨RX5, "flip", "(II)V"⟩
abbrev cX5_entryWith : ByteArray := prog_7_method_6_code
def yX5_entryWith : MethodName := ⟨RX5, "entryWith", "(I)I"⟩
abbrev cX5_chainBehind : ByteArray := prog_7_method_7_code
def yX5_chainBehind : MethodName := ⟨RX5, "chainBehind", "(I)[I"⟩
abbrev cX5_leafOf : ByteArray := prog_7_method_8_code
def yX5_leafOf : MethodName := ⟨RX5, "leafOf", "(I)[I"⟩
abbrev cX5_treeOf : ByteArray := prog_7_method_9_code
def yX5_treeOf : MethodName := ⟨RX5, "treeOf", "(II[I)V"⟩
abbrev cX5_nodeOf : ByteArray := prog_7_method_10_code
def yX5_nodeOf : MethodName := ⟨RX5, "nodeOf", "(II)[I"⟩
abbrev cX5_learn : ByteArray := prog_7_method_11_code
def yX5_learn : MethodName := ⟨RX5, "learn", "(I)V"⟩
def RX6 : String := "ChainBooks$Sha"
def TX6 : u_T := fun k => match k with
  | 0 => ("ChainBooks$Sha", "text", "[B", true)
  | 1 => ("ChainBooks$Sha", "size", "I", false)
  | 2 => ("ChainBooks$Sha", "schedule", "[I", true)
  | _ => ("ChainBooks$Sha", "state", "[I", true)
def tyX6 : Nat → FieldType := fun k => match k with
  | 0 => .array .byte
  | 1 => .int
  | 2 => .array .int
  | _ => .array .int
abbrev wsX60 : List Cond := u_ws RX6 TX6 4
theorem nmX6 : ∀ a, a < 4 → ∀ b, b < 4 → a ≠ b → (TX6 a).2.1 ≠ (TX6 b).2.1 := by decide +kernel
theorem tyX6_ok : ∀ k, k < 4 → parseFieldDescriptor (TX6 k).2.2.1 = some (tyX6 k) := by decide +kernel
abbrev cX6_init : ByteArray := prog_8_method_1_code
def yX6_init : MethodName := ⟨RX6, "<init>", "()V"⟩
abbrev cX6_begin : ByteArray := prog_8_method_2_code
def yX6_begin : MethodName := ⟨RX6, "begin", "()V"⟩
abbrev cX6_add : ByteArray := prog_8_method_3_code
def yX6_add : MethodName := ⟨RX6, "add", "(I)V"⟩
abbrev cX6_addBytes : ByteArray := prog_8_method_4_code
def yX6_addBytes : MethodName := ⟨RX6, "addBytes", "([BII)V"⟩
abbrev cX6_addHash : ByteArray := prog_8_method_5_code
def yX6_addHash : MethodName := ⟨RX6, "addHash", "([I)V"⟩
abbrev cX6_join : ByteArray := prog_8_method_6_code
def yX6_join : MethodName := ⟨RX6, "join", "([I[I[I)V"⟩
abbrev cX6_end : ByteArray := prog_8_method_7_code
def yX6_end : MethodName := ⟨RX6, "end", "([I)V"⟩
abbrev cX6_readSchedule : ByteArray := prog_8_method_8_code
def yX6_readSchedule : MethodName := ⟨RX6, "readSchedule", "(I)V"⟩
abbrev cX6_mix : ByteArray := prog_8_method_9_code
def yX6_mix : MethodName := ⟨RX6, "mix", "()V"⟩
def RX7 : String := "ChainBooks$Trail"
def TX7 : u_T := fun k => match k with
  | 0 => ("ChainBooks$Trail", "hashes", "[[I", true)
  | 1 => ("ChainBooks$Trail", "steps", "I", false)
  | 2 => ("ChainBooks$Trail", "isMade", "Z", false)
  | 3 => ("ChainBooks$Trail", "isProof", "Z", false)
  | 4 => ("ChainBooks$Trail", "from", "I", false)
  | 5 => ("ChainBooks$Trail", "till", "I", false)
  | 6 => ("ChainBooks$Trail", "wentRight", "[Z", true)
  | 7 => ("ChainBooks$Trail", "asideFirst", "[I", true)
  | 8 => ("ChainBooks$Trail", "asideSize", "[I", true)
  | 9 => ("ChainBooks$Trail", "turns", "I", false)
  | 10 => ("ChainBooks$Trail", "endFirst", "I", false)
  | 11 => ("ChainBooks$Trail", "endSize", "I", false)
  | 12 => ("ChainBooks$Trail", "sha", "LChainBooks$Sha;", true)
  | 13 => ("ChainBooks$Trail", "older", "[I", true)
  | _ => ("ChainBooks$Trail", "newer", "[I", true)
def tyX7 : Nat → FieldType := fun k => match k with
  | 0 => .array (.array .int)
  | 1 => .int
  | 2 => .boolean
  | 3 => .boolean
  | 4 => .int
  | 5 => .int
  | 6 => .array .boolean
  | 7 => .array .int
  | 8 => .array .int
  | 9 => .int
  | 10 => .int
  | 11 => .int
  | 12 => .object "ChainBooks$Sha"
  | 13 => .array .int
  | _ => .array .int
abbrev wsX70 : List Cond := u_ws RX7 TX7 15
theorem nmX7 : ∀ a, a < 15 → ∀ b, b < 15 → a ≠ b → (TX7 a).2.1 ≠ (TX7 b).2.1 := by decide +kernel
theorem tyX7_ok : ∀ k, k < 15 → parseFieldDescriptor (TX7 k).2.2.1 = some (tyX7 k) := by decide +kernel
abbrev cX7_init : ByteArray := prog_9_method_1_code
def yX7_init : MethodName := ⟨RX7, "<init>", "()V"⟩
abbrev cX7_make : ByteArray := prog_9_method_2_code
def yX7_make : MethodName := ⟨RX7, "make", "(LChainBooks$Pages;ZII)V"⟩
abbrev cX7_reaches : ByteArray := prog_9_method_3_code
def yX7_reaches : MethodName := ⟨RX7, "reaches", "([ILChainBooks$Head;)Z"⟩
abbrev cX7_joins : ByteArray := prog_9_method_4_code
def yX7_joins : MethodName := ⟨RX7, "joins", "(LChainBooks$Head;LChainBooks$Head;)Z"⟩
abbrev cX7_hasOwnBeginning : ByteArray := prog_9_method_5_code
def yX7_hasOwnBeginning : MethodName := ⟨RX7, "hasOwnBeginning", "()Z"⟩
abbrev cX7_goDown : ByteArray := prog_9_method_6_code
def yX7_goDown : MethodName := ⟨RX7, "goDown", "(I)V"⟩
abbrev cX7_isEnd : ByteArray := prog_9_method_7_code
def yX7_isEnd : MethodName := ⟨RX7, "isEnd", "(I)Z"⟩
abbrev cX7_powerBelow : ByteArray := prog_9_method_8_code
def yX7_powerBelow : MethodName := ⟨RX7, "powerBelow", "(I)I"⟩
abbrev cX7_goUp : ByteArray := prog_9_method_9_code
def yX7_goUp : MethodName := ⟨RX7, "goUp", "([I)V"⟩
def RX8 : String := "ChainBooks"
def TX8 : u_T := fun k => match k with
  | 0 => ("ChainBooks", "ledger", "LChainBooks$Ledger;", true)
  | 1 => ("ChainBooks", "told", "LChainBooks$Legs;", true)
  | 2 => ("ChainBooks", "everyTold", "[I", true)
  | 3 => ("ChainBooks", "pages", "LChainBooks$Pages;", true)
  | 4 => ("ChainBooks", "heads", "[LChainBooks$Head;", true)
  | 5 => ("ChainBooks", "trail", "LChainBooks$Trail;", true)
  | 6 => ("ChainBooks", "auditor", "LChainBooks$Auditor;", true)
  | _ => ("ChainBooks", "spareHash", "[I", true)
def tyX8 : Nat → FieldType := fun k => match k with
  | 0 => .object "ChainBooks$Ledger"
  | 1 => .object "ChainBooks$Legs"
  | 2 => .array .int
  | 3 => .object "ChainBooks$Pages"
  | 4 => .array (.object "ChainBooks$Head")
  | 5 => .object "ChainBooks$Trail"
  | 6 => .object "ChainBooks$Auditor"
  | _ => .array .int
abbrev wsX80 : List Cond := u_ws RX8 TX8 8
theorem nmX8 : ∀ a, a < 8 → ∀ b, b < 8 → a ≠ b → (TX8 a).2.1 ≠ (TX8 b).2.1 := by decide +kernel
theorem tyX8_ok : ∀ k, k < 8 → parseFieldDescriptor (TX8 k).2.2.1 = some (tyX8 k) := by decide +kernel
abbrev cX8_init : ByteArray := prog_1_method_1_code
def yX8_init : MethodName := ⟨RX8, "<init>", "()V"⟩
abbrev cX8_open : ByteArray := prog_1_method_2_code
def yX8_open : MethodName := ⟨RX8, "open", "(J)I"⟩
abbrev cX8_leg : ByteArray := prog_1_method_3_code
def yX8_leg : MethodName := ⟨RX8, "leg", "(IJ)I"⟩
abbrev cX8_clear : ByteArray := prog_1_method_4_code
def yX8_clear : MethodName := ⟨RX8, "clear", "()I"⟩
abbrev cX8_post : ByteArray := prog_1_method_5_code
def yX8_post : MethodName := ⟨RX8, "post", "(J)I"⟩
abbrev cX8_hold : ByteArray := prog_1_method_6_code
def yX8_hold : MethodName := ⟨RX8, "hold", "(JIJ)I"⟩
abbrev cX8_release : ByteArray := prog_1_method_7_code
def yX8_release : MethodName := ⟨RX8, "release", "(I)I"⟩
abbrev cX8_capture : ByteArray := prog_1_method_8_code
def yX8_capture : MethodName := ⟨RX8, "capture", "(JIIJ)I"⟩
abbrev cX8_reverse : ByteArray := prog_1_method_9_code
def yX8_reverse : MethodName := ⟨RX8, "reverse", "(JI)I"⟩
abbrev cX8_every : ByteArray := prog_1_method_10_code
def yX8_every : MethodName := ⟨RX8, "every", "(I)I"⟩
abbrev cX8_account : ByteArray := prog_1_method_11_code
def yX8_account : MethodName := ⟨RX8, "account", "(II)J"⟩
abbrev cX8_entry : ByteArray := prog_1_method_12_code
def yX8_entry : MethodName := ⟨RX8, "entry", "(II)J"⟩
abbrev cX8_data : ByteArray := prog_1_method_13_code
def yX8_data : MethodName := ⟨RX8, "data", "(I)I"⟩
abbrev cX8_alter : ByteArray := prog_1_method_14_code
def yX8_alter : MethodName := ⟨RX8, "alter", "(II)I"⟩
abbrev cX8_hash : ByteArray := prog_1_method_15_code
def yX8_hash : MethodName := ⟨RX8, "hash", "(III)I"⟩
abbrev cX8_keep : ByteArray := prog_1_method_16_code
def yX8_keep : MethodName := ⟨RX8, "keep", "(I)I"⟩
abbrev cX8_verify : ByteArray := prog_1_method_17_code
def yX8_verify : MethodName := ⟨RX8, "verify", "(I)I"⟩
abbrev cX8_path : ByteArray := prog_1_method_18_code
def yX8_path : MethodName := ⟨RX8, "path", "(II)I"⟩
abbrev cX8_proof : ByteArray := prog_1_method_19_code
def yX8_proof : MethodName := ⟨RX8, "proof", "(II)I"⟩
abbrev cX8_step : ByteArray := prog_1_method_20_code
def yX8_step : MethodName := ⟨RX8, "step", "(II)I"⟩
abbrev cX8_leads : ByteArray := prog_1_method_21_code
def yX8_leads : MethodName := ⟨RX8, "leads", "(II)I"⟩
abbrev cX8_audit : ByteArray := prog_1_method_22_code
def yX8_audit : MethodName := ⟨RX8, "audit", "()I"⟩
abbrev cX8_count : ByteArray := prog_1_method_23_code
def yX8_count : MethodName := ⟨RX8, "count", "(I)I"⟩
abbrev cX8_written : ByteArray := prog_1_method_24_code
def yX8_written : MethodName := ⟨RX8, "written", "(I)I"⟩
abbrev cX8_legOf : ByteArray := prog_1_method_25_code
def yX8_legOf : MethodName := ⟨RX8, "legOf", "(II)J"⟩
abbrev cX8_alteredBytes : ByteArray := prog_1_method_26_code
def yX8_alteredBytes : MethodName := ⟨RX8, "alteredBytes", "()I"⟩
abbrev cX8_isHeadOf : ByteArray := prog_1_method_27_code
def yX8_isHeadOf : MethodName := ⟨RX8, "isHeadOf", "(II)Z"⟩
abbrev cX8_oneIf : ByteArray := prog_1_method_28_code
def yX8_oneIf : MethodName := ⟨RX8, "oneIf", "(Z)I"⟩
abbrev cX8_byteOf : ByteArray := prog_1_method_29_code
def yX8_byteOf : MethodName := ⟨RX8, "byteOf", "([II)I"⟩
abbrev cX8_copyHash : ByteArray := prog_1_method_30_code
def yX8_copyHash : MethodName := ⟨RX8, "copyHash", "([I[I)V"⟩
abbrev cX8_sameHash : ByteArray := prog_1_method_31_code
def yX8_sameHash : MethodName := ⟨RX8, "sameHash", "([I[I)Z"⟩
abbrev cX8_isByte : ByteArray := prog_1_method_32_code
def yX8_isByte : MethodName := ⟨RX8, "isByte", "(I)Z"⟩
abbrev cX8_canBeEntry : ByteArray := prog_1_method_33_code
def yX8_canBeEntry : MethodName := ⟨RX8, "canBeEntry", "(I)Z"⟩
abbrev cX8_isBelow : ByteArray := prog_1_method_34_code
def yX8_isBelow : MethodName := ⟨RX8, "isBelow", "(JJ)Z"⟩
def RX9 : String := "ChainBooksModel"
def TX9 : u_T := fun k => match k with
  | 0 => ("ChainBooksModel", "accounts", "[I", true)
  | 1 => ("ChainBooksModel", "entries", "[I", true)
  | 2 => ("ChainBooksModel", "every", "[I", true)
  | 3 => ("ChainBooksModel", "since", "[I", true)
  | 4 => ("ChainBooksModel", "isDue", "[Z", true)
  | 5 => ("ChainBooksModel", "floor", "[J", true)
  | 6 => ("ChainBooksModel", "balance", "[J", true)
  | 7 => ("ChainBooksModel", "heldHigh", "[J", true)
  | 8 => ("ChainBooksModel", "heldLow", "[J", true)
  | 9 => ("ChainBooksModel", "kind", "[I", true)
  | 10 => ("ChainBooksModel", "keys", "[J", true)
  | 11 => ("ChainBooksModel", "legs", "[I", true)
  | 12 => ("ChainBooksModel", "legAccount", "[I", true)
  | 13 => ("ChainBooksModel", "legAmount", "[J", true)
  | 14 => ("ChainBooksModel", "holdAccount", "[I", true)
  | 15 => ("ChainBooksModel", "holdAmount", "[J", true)
  | 16 => ("ChainBooksModel", "isThere", "[Z", true)
  | 17 => ("ChainBooksModel", "endedBy", "[I", true)
  | 18 => ("ChainBooksModel", "data", "[I", true)
  | 19 => ("ChainBooksModel", "made", "[I", true)
  | 20 => ("ChainBooksModel", "bytes", "I", false)
  | 21 => ("ChainBooksModel", "begin", "[I", true)
  | 22 => ("ChainBooksModel", "size", "[I", true)
  | 23 => ("ChainBooksModel", "toldAt", "[I", true)
  | 24 => ("ChainBooksModel", "toldEvery", "[I", true)
  | 25 => ("ChainBooksModel", "tolds", "I", false)
  | 26 => ("ChainBooksModel", "cKind", "I", false)
  | 27 => ("ChainBooksModel", "cLegs", "I", false)
  | 28 => ("ChainBooksModel", "cEntry", "I", false)
  | 29 => ("ChainBooksModel", "cAccount", "I", false)
  | 30 => ("ChainBooksModel", "cKey", "J", false)
  | 31 => ("ChainBooksModel", "cAmount", "J", false)
  | 32 => ("ChainBooksModel", "cLegAccount", "[I", true)
  | 33 => ("ChainBooksModel", "cLegAmount", "[J", true)
  | 34 => ("ChainBooksModel", "row", "[I", true)
  | 35 => ("ChainBooksModel", "rowSize", "I", false)
  | 36 => ("ChainBooksModel", "after", "[J", true)
  | 37 => ("ChainBooksModel", "told", "I", false)
  | 38 => ("ChainBooksModel", "toldAccount", "[I", true)
  | 39 => ("ChainBooksModel", "toldAmount", "[J", true)
  | 40 => ("ChainBooksModel", "rounds", "[I", true)
  | 41 => ("ChainBooksModel", "message", "[I", true)
  | 42 => ("ChainBooksModel", "length", "I", false)
  | 43 => ("ChainBooksModel", "words", "[I", true)
  | 44 => ("ChainBooksModel", "state", "[I", true)
  | 45 => ("ChainBooksModel", "hash", "[I", true)
  | 46 => ("ChainBooksModel", "waits", "[I", true)
  | 47 => ("ChainBooksModel", "waitSize", "[I", true)
  | 48 => ("ChainBooksModel", "headMany", "[I", true)
  | 49 => ("ChainBooksModel", "isKept", "[Z", true)
  | 50 => ("ChainBooksModel", "headChain", "[I", true)
  | 51 => ("ChainBooksModel", "headTree", "[I", true)
  | 52 => ("ChainBooksModel", "sort", "I", false)
  | 53 => ("ChainBooksModel", "first", "I", false)
  | 54 => ("ChainBooksModel", "all", "I", false)
  | 55 => ("ChainBooksModel", "steps", "I", false)
  | 56 => ("ChainBooksModel", "stepHash", "[I", true)
  | 57 => ("ChainBooksModel", "isLeft", "[Z", true)
  | 58 => ("ChainBooksModel", "sideFrom", "[I", true)
  | 59 => ("ChainBooksModel", "sideTo", "[I", true)
  | 60 => ("ChainBooksModel", "ways", "I", false)
  | 61 => ("ChainBooksModel", "downFrom", "I", false)
  | 62 => ("ChainBooksModel", "downTo", "I", false)
  | 63 => ("ChainBooksModel", "isWhole", "Z", false)
  | 64 => ("ChainBooksModel", "older", "[I", true)
  | 65 => ("ChainBooksModel", "newer", "[I", true)
  | _ => ("ChainBooksModel", "at", "I", false)
def tyX9 : Nat → FieldType := fun k => match k with
  | 0 => .array .int
  | 1 => .array .int
  | 2 => .array .int
  | 3 => .array .int
  | 4 => .array .boolean
  | 5 => .array .long
  | 6 => .array .long
  | 7 => .array .long
  | 8 => .array .long
  | 9 => .array .int
  | 10 => .array .long
  | 11 => .array .int
  | 12 => .array .int
  | 13 => .array .long
  | 14 => .array .int
  | 15 => .array .long
  | 16 => .array .boolean
  | 17 => .array .int
  | 18 => .array .int
  | 19 => .array .int
  | 20 => .int
  | 21 => .array .int
  | 22 => .array .int
  | 23 => .array .int
  | 24 => .array .int
  | 25 => .int
  | 26 => .int
  | 27 => .int
  | 28 => .int
  | 29 => .int
  | 30 => .long
  | 31 => .long
  | 32 => .array .int
  | 33 => .array .long
  | 34 => .array .int
  | 35 => .int
  | 36 => .array .long
  | 37 => .int
  | 38 => .array .int
  | 39 => .array .long
  | 40 => .array .int
  | 41 => .array .int
  | 42 => .int
  | 43 => .array .int
  | 44 => .array .int
  | 45 => .array .int
  | 46 => .array .int
  | 47 => .array .int
  | 48 => .array .int
  | 49 => .array .boolean
  | 50 => .array .int
  | 51 => .array .int
  | 52 => .int
  | 53 => .int
  | 54 => .int
  | 55 => .int
  | 56 => .array .int
  | 57 => .array .boolean
  | 58 => .array .int
  | 59 => .array .int
  | 60 => .int
  | 61 => .int
  | 62 => .int
  | 63 => .boolean
  | 64 => .array .int
  | 65 => .array .int
  | _ => .int
abbrev wsX90 : List Cond := u_ws RX9 TX9 67
theorem nmX9 : ∀ a, a < 67 → ∀ b, b < 67 → a ≠ b → (TX9 a).2.1 ≠ (TX9 b).2.1 := by decide +kernel
theorem tyX9_ok : ∀ k, k < 67 → parseFieldDescriptor (TX9 k).2.2.1 = some (tyX9 k) := by decide +kernel
abbrev cX9_init : ByteArray := prog_11_method_1_code
def yX9_init : MethodName := ⟨RX9, "<init>", "()V"⟩
abbrev cX9_begins : ByteArray := prog_11_method_2_code
def yX9_begins : MethodName := ⟨RX9, "begins", "(IJ)V"⟩
abbrev cX9_put : ByteArray := prog_11_method_3_code
def yX9_put : MethodName := ⟨RX9, "put", "(I)V"⟩
abbrev cX9_putLong : ByteArray := prog_11_method_4_code
def yX9_putLong : MethodName := ⟨RX9, "putLong", "(J)V"⟩
abbrev cX9_putShort : ByteArray := prog_11_method_5_code
def yX9_putShort : MethodName := ⟨RX9, "putShort", "(I)V"⟩
abbrev cX9_leg : ByteArray := prog_11_method_6_code
def yX9_leg : MethodName := ⟨RX9, "leg", "(IJI)V"⟩
abbrev cX9_byKey : ByteArray := prog_11_method_7_code
def yX9_byKey : MethodName := ⟨RX9, "byKey", "(IJ)I"⟩
abbrev cX9_isSame : ByteArray := prog_11_method_8_code
def yX9_isSame : MethodName := ⟨RX9, "isSame", "(I)Z"⟩
abbrev cX9_isHold : ByteArray := prog_11_method_9_code
def yX9_isHold : MethodName := ⟨RX9, "isHold", "(II)Z"⟩
abbrev cX9_isAccount : ByteArray := prog_11_method_10_code
def yX9_isAccount : MethodName := ⟨RX9, "isAccount", "(II)Z"⟩
abbrev cX9_isUnknown : ByteArray := prog_11_method_11_code
def yX9_isUnknown : MethodName := ⟨RX9, "isUnknown", "(I)Z"⟩
abbrev cX9_isUneven : ByteArray := prog_11_method_12_code
def yX9_isUneven : MethodName := ⟨RX9, "isUneven", "()Z"⟩
abbrev cX9_isOver : ByteArray := prog_11_method_13_code
def yX9_isOver : MethodName := ⟨RX9, "isOver", "(I)Z"⟩
abbrev cX9_isBelow : ByteArray := prog_11_method_14_code
def yX9_isBelow : MethodName := ⟨RX9, "isBelow", "(II)Z"⟩
abbrev cX9_refused : ByteArray := prog_11_method_15_code
def yX9_refused : MethodName := ⟨RX9, "refused", "(I)I"⟩
abbrev cX9_hold : ByteArray := prog_11_method_16_code
def yX9_hold : MethodName := ⟨RX9, "hold", "(IIJI)V"⟩
abbrev cX9_does : ByteArray := prog_11_method_17_code
def yX9_does : MethodName := ⟨RX9, "does", "(I)I"⟩
abbrev cX9_trial : ByteArray := prog_11_method_18_code
def yX9_trial : MethodName := ⟨RX9, "trial", "(I)V"⟩
abbrev cX9_writes : ByteArray := prog_11_method_19_code
def yX9_writes : MethodName := ⟨RX9, "writes", "()V"⟩
abbrev cX9_calls : ByteArray := prog_11_method_20_code
def yX9_calls : MethodName := ⟨RX9, "calls", "()I"⟩
abbrev cX9_in : ByteArray := prog_11_method_21_code
def yX9_in : MethodName := ⟨RX9, "in", "(III)Z"⟩
abbrev cX9_open : ByteArray := prog_11_method_22_code
def yX9_open : MethodName := ⟨RX9, "open", "(J)I"⟩
abbrev cX9_leg_ : ByteArray := prog_11_method_23_code
def yX9_leg_ : MethodName := ⟨RX9, "leg", "(IJ)I"⟩
abbrev cX9_clear : ByteArray := prog_11_method_24_code
def yX9_clear : MethodName := ⟨RX9, "clear", "()I"⟩
abbrev cX9_post : ByteArray := prog_11_method_25_code
def yX9_post : MethodName := ⟨RX9, "post", "(J)I"⟩
abbrev cX9_hold_ : ByteArray := prog_11_method_26_code
def yX9_hold_ : MethodName := ⟨RX9, "hold", "(JIJ)I"⟩
abbrev cX9_release : ByteArray := prog_11_method_27_code
def yX9_release : MethodName := ⟨RX9, "release", "(I)I"⟩
abbrev cX9_capture : ByteArray := prog_11_method_28_code
def yX9_capture : MethodName := ⟨RX9, "capture", "(JIIJ)I"⟩
abbrev cX9_reverse : ByteArray := prog_11_method_29_code
def yX9_reverse : MethodName := ⟨RX9, "reverse", "(JI)I"⟩
abbrev cX9_every : ByteArray := prog_11_method_30_code
def yX9_every : MethodName := ⟨RX9, "every", "(I)I"⟩
abbrev cX9_account : ByteArray := prog_11_method_31_code
def yX9_account : MethodName := ⟨RX9, "account", "(II)J"⟩
abbrev cX9_entry : ByteArray := prog_11_method_32_code
def yX9_entry : MethodName := ⟨RX9, "entry", "(II)J"⟩
abbrev cX9_data : ByteArray := prog_11_method_33_code
def yX9_data : MethodName := ⟨RX9, "data", "(I)I"⟩
abbrev cX9_alter : ByteArray := prog_11_method_34_code
def yX9_alter : MethodName := ⟨RX9, "alter", "(II)I"⟩
abbrev cX9_turn : ByteArray := prog_11_method_35_code
def yX9_turn : MethodName := ⟨RX9, "turn", "(II)I"⟩
abbrev cX9_says : ByteArray := prog_11_method_36_code
def yX9_says : MethodName := ⟨RX9, "says", "(I)V"⟩
abbrev cX9_sum : ByteArray := prog_11_method_37_code
def yX9_sum : MethodName := ⟨RX9, "sum", "()V"⟩
abbrev cX9_block : ByteArray := prog_11_method_38_code
def yX9_block : MethodName := ⟨RX9, "block", "(I)V"⟩
abbrev cX9_saysEntry : ByteArray := prog_11_method_39_code
def yX9_saysEntry : MethodName := ⟨RX9, "saysEntry", "(I)V"⟩
abbrev cX9_chain : ByteArray := prog_11_method_40_code
def yX9_chain : MethodName := ⟨RX9, "chain", "(I)V"⟩
abbrev cX9_leaf : ByteArray := prog_11_method_41_code
def yX9_leaf : MethodName := ⟨RX9, "leaf", "(I)V"⟩
abbrev cX9_keepWait : ByteArray := prog_11_method_42_code
def yX9_keepWait : MethodName := ⟨RX9, "keepWait", "(I)V"⟩
abbrev cX9_joins : ByteArray := prog_11_method_43_code
def yX9_joins : MethodName := ⟨RX9, "joins", "(I)V"⟩
abbrev cX9_tree : ByteArray := prog_11_method_44_code
def yX9_tree : MethodName := ⟨RX9, "tree", "(II)V"⟩
abbrev cX9_hash : ByteArray := prog_11_method_45_code
def yX9_hash : MethodName := ⟨RX9, "hash", "(III)I"⟩
abbrev cX9_keep : ByteArray := prog_11_method_46_code
def yX9_keep : MethodName := ⟨RX9, "keep", "(I)I"⟩
abbrev cX9_isAs : ByteArray := prog_11_method_47_code
def yX9_isAs : MethodName := ⟨RX9, "isAs", "([II)Z"⟩
abbrev cX9_verify : ByteArray := prog_11_method_48_code
def yX9_verify : MethodName := ⟨RX9, "verify", "(I)I"⟩
abbrev cX9_half : ByteArray := prog_11_method_49_code
def yX9_half : MethodName := ⟨RX9, "half", "(I)I"⟩
abbrev cX9_down : ByteArray := prog_11_method_50_code
def yX9_down : MethodName := ⟨RX9, "down", "(IIZ)V"⟩
abbrev cX9_step : ByteArray := prog_11_method_51_code
def yX9_step : MethodName := ⟨RX9, "step", "()V"⟩
abbrev cX9_sides : ByteArray := prog_11_method_52_code
def yX9_sides : MethodName := ⟨RX9, "sides", "()V"⟩
abbrev cX9_path : ByteArray := prog_11_method_53_code
def yX9_path : MethodName := ⟨RX9, "path", "(II)I"⟩
abbrev cX9_proof : ByteArray := prog_11_method_54_code
def yX9_proof : MethodName := ⟨RX9, "proof", "(II)I"⟩
abbrev cX9_step_ : ByteArray := prog_11_method_55_code
def yX9_step_ : MethodName := ⟨RX9, "step", "(II)I"⟩
abbrev cX9_beside : ByteArray := prog_11_method_56_code
def yX9_beside : MethodName := ⟨RX9, "beside", "([IIZ)V"⟩
abbrev cX9_isHead : ByteArray := prog_11_method_57_code
def yX9_isHead : MethodName := ⟨RX9, "isHead", "([II)Z"⟩
abbrev cX9_isHeadOf : ByteArray := prog_11_method_58_code
def yX9_isHeadOf : MethodName := ⟨RX9, "isHeadOf", "(II)Z"⟩
abbrev cX9_leads : ByteArray := prog_11_method_59_code
def yX9_leads : MethodName := ⟨RX9, "leads", "(II)I"⟩
abbrev cX9_number : ByteArray := prog_11_method_60_code
def yX9_number : MethodName := ⟨RX9, "number", "(I)J"⟩
abbrev cX9_sizeOf : ByteArray := prog_11_method_61_code
def yX9_sizeOf : MethodName := ⟨RX9, "sizeOf", "(I)I"⟩
abbrev cX9_reads : ByteArray := prog_11_method_62_code
def yX9_reads : MethodName := ⟨RX9, "reads", "()Z"⟩
abbrev cX9_readsLegs : ByteArray := prog_11_method_63_code
def yX9_readsLegs : MethodName := ⟨RX9, "readsLegs", "()Z"⟩
abbrev cX9_isTrial : ByteArray := prog_11_method_64_code
def yX9_isTrial : MethodName := ⟨RX9, "isTrial", "()Z"⟩
abbrev cX9_tells : ByteArray := prog_11_method_65_code
def yX9_tells : MethodName := ⟨RX9, "tells", "(I)I"⟩
abbrev cX9_audit : ByteArray := prog_11_method_66_code
def yX9_audit : MethodName := ⟨RX9, "audit", "()I"⟩
abbrev cX9_altered : ByteArray := prog_11_method_67_code
def yX9_altered : MethodName := ⟨RX9, "altered", "()I"⟩
abbrev cX9_there : ByteArray := prog_11_method_68_code
def yX9_there : MethodName := ⟨RX9, "there", "()I"⟩
abbrev cX9_count : ByteArray := prog_11_method_69_code
def yX9_count : MethodName := ⟨RX9, "count", "(I)I"⟩
def RJ9 : String := "java/lang/Math"
abbrev cJ9_max_7cf53 : ByteArray := prog_12_method_65_code
def yJ9_max_7cf53 : MethodName := ⟨RJ9, "max", "(II)I"⟩
abbrev cJ9_min_7cf53 : ByteArray := prog_12_method_69_code
def yJ9_min_7cf53 : MethodName := ⟨RJ9, "min", "(II)I"⟩
def RJ10 : String := "java/lang/System"
def RL : String := "ChainBooksLaw"
abbrev cL_law : ByteArray := code
def yL_law : MethodName := ⟨RL, "law", "([I)Z"⟩
abbrev vwCl : List vw_C := [(RX0, TX0, 2), (RX1, TX1, 2), (RX2, TX2, 3), (RX3, TX3, 18), (RX4, TX4, 3), (RX5, TX5, 8), (RX6, TX6, 4), (RX7, TX7, 15), (RX8, TX8, 8), (RX9, TX9, 67)]
def nS : Nat := 3
def lwN : List (String × Nat × MethodName × String) := [("ChainBooks", 11, ⟨"ChainBooks$Ledger", "<init>", "()V"⟩, "ChainBooks"), ("ChainBooks$Ledger", 49, ⟨"ChainBooks$Draft", "<init>", "()V"⟩, "ChainBooks"), ("ChainBooks$Ledger", 56, ⟨"ChainBooks$Legs", "<init>", "()V"⟩, "ChainBooks"), ("ChainBooks", 18, ⟨"ChainBooks$Legs", "<init>", "()V"⟩, "ChainBooks"), ("ChainBooks", 29, ⟨"ChainBooks$Pages", "<init>", "()V"⟩, "ChainBooks"), ("ChainBooks$Pages", 21, ⟨"ChainBooks$Sha", "<init>", "()V"⟩, "ChainBooks"), ("ChainBooks", 40, ⟨"ChainBooks$Head", "<init>", "()V"⟩, "ChainBooks"), ("ChainBooks", 43, ⟨"ChainBooks$Trail", "<init>", "()V"⟩, "ChainBooks"), ("ChainBooks$Trail", 29, ⟨"ChainBooks$Sha", "<init>", "()V"⟩, "ChainBooks"), ("ChainBooks", 50, ⟨"ChainBooks$Auditor", "<init>", "()V"⟩, "ChainBooks"), ("ChainBooks$Auditor", 11, ⟨"ChainBooks$Ledger", "<init>", "()V"⟩, "ChainBooks"), ("ChainBooks$Auditor", 20, ⟨"ChainBooks$Legs", "<init>", "()V"⟩, "ChainBooks"), ("ChainBooks$Legs", 23, ⟨"ChainBooks", "isByte", "(I)Z"⟩, "ChainBooks"), ("ChainBooks$Ledger", 128, ⟨"ChainBooks", "isBelow", "(JJ)Z"⟩, "ChainBooks"), ("ChainBooks$Ledger", 124, ⟨"ChainBooks", "isByte", "(I)Z"⟩, "ChainBooks"), ("ChainBooks$Ledger", 132, ⟨"ChainBooks", "canBeEntry", "(I)Z"⟩, "ChainBooks"), ("ChainBooks$Sha", 30, ⟨"ChainBooks", "byteOf", "([II)I"⟩, "ChainBooks"), ("ChainBooks$Sha", 47, ⟨"ChainBooks", "copyHash", "([I[I)V"⟩, "ChainBooks"), ("ChainBooks$Pages", 93, ⟨"ChainBooks", "copyHash", "([I[I)V"⟩, "ChainBooks"), ("ChainBooks$Trail", 101, ⟨"ChainBooks", "copyHash", "([I[I)V"⟩, "ChainBooks"), ("ChainBooks$Trail", 89, ⟨"ChainBooks", "sameHash", "([I[I)Z"⟩, "ChainBooks")]
theorem lwN_in : ∀ q ∈ lwN, Cond.methodLinkNest q.1 q.2.1 q.2.2.1 q.2.2.2 ∈ lw_tbl := by
  intro q hq
  obtain ⟨k, hk⟩ := List.getElem?_of_mem hq
  match k, hk with
  | 0, hk => cases hk; exact tn1 (List.mem_of_getElem? (i := 23) rfl)
  | 1, hk => cases hk; exact tn1 (List.mem_of_getElem? (i := 29) rfl)
  | 2, hk => cases hk; exact tn1 (List.mem_of_getElem? (i := 47) rfl)
  | 3, hk => cases hk; exact tn1 (List.mem_of_getElem? (i := 143) rfl)
  | 4, hk => cases hk; exact tn1 (List.mem_of_getElem? (i := 146) rfl)
  | 5, hk => cases hk; exact tn1 (List.mem_of_getElem? (i := 152) rfl)
  | 6, hk => cases hk; exact tn1 (List.mem_of_getElem? (i := 203) rfl)
  | 7, hk => cases hk; exact tn1 (List.mem_of_getElem? (i := 223) rfl)
  | 8, hk => cases hk; exact tn1 (List.mem_of_getElem? (i := 229) rfl)
  | 9, hk => cases hk; exact tn2 (List.mem_of_getElem? (i := 44) rfl)
  | 10, hk => cases hk; exact tn2 (List.mem_of_getElem? (i := 49) rfl)
  | 11, hk => cases hk; exact tn2 (List.mem_of_getElem? (i := 51) rfl)
  | 12, hk => cases hk; exact tn2 (List.mem_of_getElem? (i := 129) rfl)
  | 13, hk => cases hk; exact tn2 (List.mem_of_getElem? (i := 171) rfl)
  | 14, hk => cases hk; exact tn2 (List.mem_of_getElem? (i := 191) rfl)
  | 15, hk => cases hk; exact tn2 (List.mem_of_getElem? (i := 200) rfl)
  | 16, hk => cases hk; exact tn3 (List.mem_of_getElem? (i := 57) rfl)
  | 17, hk => cases hk; exact tn3 (List.mem_of_getElem? (i := 74) rfl)
  | 18, hk => cases hk; exact tn3 (List.mem_of_getElem? (i := 111) rfl)
  | 19, hk => cases hk; exact tn3 (List.mem_of_getElem? (i := 176) rfl)
  | 20, hk => cases hk; exact tn3 (List.mem_of_getElem? (i := 178) rfl)
  | k + 21, hk => cases hk
def cfT : Nat → List FieldType := fun ci => match ci with
  | 0 => [.object "ChainBooks$Ledger", .object "ChainBooks$Legs"]
  | 1 => [.array .byte, .int]
  | 2 => [.array .int, .array .int, .int]
  | 3 => [.array .long, .array .long, .array .long, .array .long, .int, .array .byte, .array .int, .array .long, .array .int, .array .int, .array .int, .array .long, .int, .object "ChainBooks$Draft", .object "ChainBooks$Legs", .int, .int, .int]
  | 4 => [.array .int, .array .long, .int]
  | 5 => [.array .byte, .array .int, .int, .object "ChainBooks$Sha", .array (.array .int), .int, .array (.array .int), .array .boolean]
  | 6 => [.array .byte, .int, .array .int, .array .int]
  | 7 => [.array (.array .int), .int, .boolean, .boolean, .int, .int, .array .boolean, .array .int, .array .int, .int, .int, .int, .object "ChainBooks$Sha", .array .int, .array .int]
  | 8 => [.object "ChainBooks$Ledger", .object "ChainBooks$Legs", .array .int, .object "ChainBooks$Pages", .array (.object "ChainBooks$Head"), .object "ChainBooks$Trail", .object "ChainBooks$Auditor", .array .int]
  | 9 => [.array .int, .array .int, .array .int, .array .int, .array .boolean, .array .long, .array .long, .array .long, .array .long, .array .int, .array .long, .array .int, .array .int, .array .long, .array .int, .array .long, .array .boolean, .array .int, .array .int, .array .int, .int, .array .int, .array .int, .array .int, .array .int, .int, .int, .int, .int, .int, .long, .long, .array .int, .array .long, .array .int, .int, .array .long, .int, .array .int, .array .long, .array .int, .array .int, .int, .array .int, .array .int, .array .int, .array .int, .array .int, .array .int, .array .boolean, .array .int, .array .int, .int, .int, .int, .int, .array .int, .array .boolean, .array .int, .array .int, .int, .int, .int, .boolean, .array .int, .array .int, .int]
  | _ => []
def aTys : List FieldType := [.int, .byte, .boolean, .long, .array .int, .object "ChainBooks$Head"]
def sTab : List (String × String × String) := [("ChainBooks$Sha", "FIRST", "[I"), ("ChainBooks$Sha", "ROUND", "[I")]
theorem inX0 : ∀ w ∈ wsX00, w ∈ lwT := by
  intro w hw
  obtain ⟨k, hk, rfl⟩ := List.mem_map.mp hw
  have hk := List.mem_range.mp hk
  match k, hk with
  | 0, _ => exact tb2 (List.mem_of_getElem? (i := 54) rfl) rfl
  | 1, _ => exact tb2 (List.mem_of_getElem? (i := 56) rfl) rfl
  | k + 2, h => exact absurd h (by omega)
theorem cfX0 : ∀ k, k < 2 → (cfT 0)[k]? = some (tyX0 k) := by decide +kernel
theorem inX1 : ∀ w ∈ wsX10, w ∈ lwT := by
  intro w hw
  obtain ⟨k, hk, rfl⟩ := List.mem_map.mp hw
  have hk := List.mem_range.mp hk
  match k, hk with
  | 0, _ => exact tb1 (List.mem_of_getElem? (i := 37) rfl) rfl
  | 1, _ => exact tb1 (List.mem_of_getElem? (i := 39) rfl) rfl
  | k + 2, h => exact absurd h (by omega)
theorem cfX1 : ∀ k, k < 2 → (cfT 1)[k]? = some (tyX1 k) := by decide +kernel
theorem inX2 : ∀ w ∈ wsX20, w ∈ lwT := by
  intro w hw
  obtain ⟨k, hk, rfl⟩ := List.mem_map.mp hw
  have hk := List.mem_range.mp hk
  match k, hk with
  | 0, _ => exact tb1 (List.mem_of_getElem? (i := 214) rfl) rfl
  | 1, _ => exact tb1 (List.mem_of_getElem? (i := 216) rfl) rfl
  | 2, _ => exact tb1 (List.mem_of_getElem? (i := 218) rfl) rfl
  | k + 3, h => exact absurd h (by omega)
theorem cfX2 : ∀ k, k < 3 → (cfT 2)[k]? = some (tyX2 k) := by decide +kernel
theorem inX3 : ∀ w ∈ wsX30, w ∈ lwT := by
  intro w hw
  obtain ⟨k, hk, rfl⟩ := List.mem_map.mp hw
  have hk := List.mem_range.mp hk
  match k, hk with
  | 0, _ => exact tb1 (List.mem_of_getElem? (i := 105) rfl) rfl
  | 1, _ => exact tb1 (List.mem_of_getElem? (i := 107) rfl) rfl
  | 2, _ => exact tb1 (List.mem_of_getElem? (i := 109) rfl) rfl
  | 3, _ => exact tb1 (List.mem_of_getElem? (i := 111) rfl) rfl
  | 4, _ => exact tb1 (List.mem_of_getElem? (i := 113) rfl) rfl
  | 5, _ => exact tb1 (List.mem_of_getElem? (i := 115) rfl) rfl
  | 6, _ => exact tb1 (List.mem_of_getElem? (i := 117) rfl) rfl
  | 7, _ => exact tb1 (List.mem_of_getElem? (i := 119) rfl) rfl
  | 8, _ => exact tb1 (List.mem_of_getElem? (i := 121) rfl) rfl
  | 9, _ => exact tb1 (List.mem_of_getElem? (i := 123) rfl) rfl
  | 10, _ => exact tb1 (List.mem_of_getElem? (i := 125) rfl) rfl
  | 11, _ => exact tb1 (List.mem_of_getElem? (i := 127) rfl) rfl
  | 12, _ => exact tb1 (List.mem_of_getElem? (i := 129) rfl) rfl
  | 13, _ => exact tb1 (List.mem_of_getElem? (i := 131) rfl) rfl
  | 14, _ => exact tb1 (List.mem_of_getElem? (i := 133) rfl) rfl
  | 15, _ => exact tb1 (List.mem_of_getElem? (i := 135) rfl) rfl
  | 16, _ => exact tb1 (List.mem_of_getElem? (i := 137) rfl) rfl
  | 17, _ => exact tb1 (List.mem_of_getElem? (i := 139) rfl) rfl
  | k + 18, h => exact absurd h (by omega)
theorem cfX3 : ∀ k, k < 18 → (cfT 3)[k]? = some (tyX3 k) := by decide +kernel
theorem inX4 : ∀ w ∈ wsX40, w ∈ lwT := by
  intro w hw
  obtain ⟨k, hk, rfl⟩ := List.mem_map.mp hw
  have hk := List.mem_range.mp hk
  match k, hk with
  | 0, _ => exact tb1 (List.mem_of_getElem? (i := 59) rfl) rfl
  | 1, _ => exact tb1 (List.mem_of_getElem? (i := 61) rfl) rfl
  | 2, _ => exact tb1 (List.mem_of_getElem? (i := 63) rfl) rfl
  | k + 3, h => exact absurd h (by omega)
theorem cfX4 : ∀ k, k < 3 → (cfT 4)[k]? = some (tyX4 k) := by decide +kernel
theorem inX5 : ∀ w ∈ wsX50, w ∈ lwT := by
  intro w hw
  obtain ⟨k, hk, rfl⟩ := List.mem_map.mp hw
  have hk := List.mem_range.mp hk
  match k, hk with
  | 0, _ => exact tb1 (List.mem_of_getElem? (i := 182) rfl) rfl
  | 1, _ => exact tb1 (List.mem_of_getElem? (i := 184) rfl) rfl
  | 2, _ => exact tb1 (List.mem_of_getElem? (i := 186) rfl) rfl
  | 3, _ => exact tb1 (List.mem_of_getElem? (i := 188) rfl) rfl
  | 4, _ => exact tb1 (List.mem_of_getElem? (i := 190) rfl) rfl
  | 5, _ => exact tb1 (List.mem_of_getElem? (i := 192) rfl) rfl
  | 6, _ => exact tb1 (List.mem_of_getElem? (i := 194) rfl) rfl
  | 7, _ => exact tb1 (List.mem_of_getElem? (i := 196) rfl) rfl
  | k + 8, h => exact absurd h (by omega)
theorem cfX5 : ∀ k, k < 8 → (cfT 5)[k]? = some (tyX5 k) := by decide +kernel
theorem inX6 : ∀ w ∈ wsX60, w ∈ lwT := by
  intro w hw
  obtain ⟨k, hk, rfl⟩ := List.mem_map.mp hw
  have hk := List.mem_range.mp hk
  match k, hk with
  | 0, _ => exact tb1 (List.mem_of_getElem? (i := 160) rfl) rfl
  | 1, _ => exact tb1 (List.mem_of_getElem? (i := 162) rfl) rfl
  | 2, _ => exact tb1 (List.mem_of_getElem? (i := 164) rfl) rfl
  | 3, _ => exact tb1 (List.mem_of_getElem? (i := 166) rfl) rfl
  | k + 4, h => exact absurd h (by omega)
theorem cfX6 : ∀ k, k < 4 → (cfT 6)[k]? = some (tyX6 k) := by decide +kernel
theorem inX7 : ∀ w ∈ wsX70, w ∈ lwT := by
  intro w hw
  obtain ⟨k, hk, rfl⟩ := List.mem_map.mp hw
  have hk := List.mem_range.mp hk
  match k, hk with
  | 0, _ => exact tb2 (List.mem_of_getElem? (i := 11) rfl) rfl
  | 1, _ => exact tb2 (List.mem_of_getElem? (i := 13) rfl) rfl
  | 2, _ => exact tb2 (List.mem_of_getElem? (i := 15) rfl) rfl
  | 3, _ => exact tb2 (List.mem_of_getElem? (i := 17) rfl) rfl
  | 4, _ => exact tb2 (List.mem_of_getElem? (i := 19) rfl) rfl
  | 5, _ => exact tb2 (List.mem_of_getElem? (i := 21) rfl) rfl
  | 6, _ => exact tb2 (List.mem_of_getElem? (i := 23) rfl) rfl
  | 7, _ => exact tb2 (List.mem_of_getElem? (i := 25) rfl) rfl
  | 8, _ => exact tb2 (List.mem_of_getElem? (i := 27) rfl) rfl
  | 9, _ => exact tb2 (List.mem_of_getElem? (i := 29) rfl) rfl
  | 10, _ => exact tb2 (List.mem_of_getElem? (i := 31) rfl) rfl
  | 11, _ => exact tb2 (List.mem_of_getElem? (i := 33) rfl) rfl
  | 12, _ => exact tb2 (List.mem_of_getElem? (i := 35) rfl) rfl
  | 13, _ => exact tb2 (List.mem_of_getElem? (i := 37) rfl) rfl
  | 14, _ => exact tb2 (List.mem_of_getElem? (i := 39) rfl) rfl
  | k + 15, h => exact absurd h (by omega)
theorem cfX7 : ∀ k, k < 15 → (cfT 7)[k]? = some (tyX7 k) := by decide +kernel
theorem inX8 : ∀ w ∈ wsX80, w ∈ lwT := by
  intro w hw
  obtain ⟨k, hk, rfl⟩ := List.mem_map.mp hw
  have hk := List.mem_range.mp hk
  match k, hk with
  | 0, _ => exact tb2 (List.mem_of_getElem? (i := 67) rfl) rfl
  | 1, _ => exact tb2 (List.mem_of_getElem? (i := 69) rfl) rfl
  | 2, _ => exact tb2 (List.mem_of_getElem? (i := 71) rfl) rfl
  | 3, _ => exact tb2 (List.mem_of_getElem? (i := 73) rfl) rfl
  | 4, _ => exact tb2 (List.mem_of_getElem? (i := 75) rfl) rfl
  | 5, _ => exact tb2 (List.mem_of_getElem? (i := 77) rfl) rfl
  | 6, _ => exact tb2 (List.mem_of_getElem? (i := 79) rfl) rfl
  | 7, _ => exact tb2 (List.mem_of_getElem? (i := 81) rfl) rfl
  | k + 8, h => exact absurd h (by omega)
theorem cfX8 : ∀ k, k < 8 → (cfT 8)[k]? = some (tyX8 k) := by decide +kernel
theorem inX9 : ∀ w ∈ wsX90, w ∈ lwT := by
  intro w hw
  obtain ⟨k, hk, rfl⟩ := List.mem_map.mp hw
  have hk := List.mem_range.mp hk
  match k, hk with
  | 0, _ => exact tb4 (List.mem_of_getElem? (i := 130) rfl) rfl
  | 1, _ => exact tb4 (List.mem_of_getElem? (i := 132) rfl) rfl
  | 2, _ => exact tb4 (List.mem_of_getElem? (i := 134) rfl) rfl
  | 3, _ => exact tb4 (List.mem_of_getElem? (i := 136) rfl) rfl
  | 4, _ => exact tb4 (List.mem_of_getElem? (i := 138) rfl) rfl
  | 5, _ => exact tb4 (List.mem_of_getElem? (i := 140) rfl) rfl
  | 6, _ => exact tb4 (List.mem_of_getElem? (i := 142) rfl) rfl
  | 7, _ => exact tb4 (List.mem_of_getElem? (i := 144) rfl) rfl
  | 8, _ => exact tb4 (List.mem_of_getElem? (i := 146) rfl) rfl
  | 9, _ => exact tb4 (List.mem_of_getElem? (i := 148) rfl) rfl
  | 10, _ => exact tb4 (List.mem_of_getElem? (i := 150) rfl) rfl
  | 11, _ => exact tb4 (List.mem_of_getElem? (i := 152) rfl) rfl
  | 12, _ => exact tb4 (List.mem_of_getElem? (i := 154) rfl) rfl
  | 13, _ => exact tb4 (List.mem_of_getElem? (i := 156) rfl) rfl
  | 14, _ => exact tb4 (List.mem_of_getElem? (i := 158) rfl) rfl
  | 15, _ => exact tb4 (List.mem_of_getElem? (i := 160) rfl) rfl
  | 16, _ => exact tb4 (List.mem_of_getElem? (i := 162) rfl) rfl
  | 17, _ => exact tb4 (List.mem_of_getElem? (i := 164) rfl) rfl
  | 18, _ => exact tb4 (List.mem_of_getElem? (i := 166) rfl) rfl
  | 19, _ => exact tb4 (List.mem_of_getElem? (i := 168) rfl) rfl
  | 20, _ => exact tb4 (List.mem_of_getElem? (i := 170) rfl) rfl
  | 21, _ => exact tb4 (List.mem_of_getElem? (i := 172) rfl) rfl
  | 22, _ => exact tb4 (List.mem_of_getElem? (i := 174) rfl) rfl
  | 23, _ => exact tb4 (List.mem_of_getElem? (i := 176) rfl) rfl
  | 24, _ => exact tb4 (List.mem_of_getElem? (i := 178) rfl) rfl
  | 25, _ => exact tb4 (List.mem_of_getElem? (i := 180) rfl) rfl
  | 26, _ => exact tb4 (List.mem_of_getElem? (i := 182) rfl) rfl
  | 27, _ => exact tb4 (List.mem_of_getElem? (i := 184) rfl) rfl
  | 28, _ => exact tb4 (List.mem_of_getElem? (i := 186) rfl) rfl
  | 29, _ => exact tb4 (List.mem_of_getElem? (i := 188) rfl) rfl
  | 30, _ => exact tb4 (List.mem_of_getElem? (i := 190) rfl) rfl
  | 31, _ => exact tb4 (List.mem_of_getElem? (i := 192) rfl) rfl
  | 32, _ => exact tb4 (List.mem_of_getElem? (i := 194) rfl) rfl
  | 33, _ => exact tb4 (List.mem_of_getElem? (i := 196) rfl) rfl
  | 34, _ => exact tb4 (List.mem_of_getElem? (i := 198) rfl) rfl
  | 35, _ => exact tb4 (List.mem_of_getElem? (i := 200) rfl) rfl
  | 36, _ => exact tb4 (List.mem_of_getElem? (i := 202) rfl) rfl
  | 37, _ => exact tb4 (List.mem_of_getElem? (i := 204) rfl) rfl
  | 38, _ => exact tb4 (List.mem_of_getElem? (i := 206) rfl) rfl
  | 39, _ => exact tb4 (List.mem_of_getElem? (i := 208) rfl) rfl
  | 40, _ => exact tb4 (List.mem_of_getElem? (i := 210) rfl) rfl
  | 41, _ => exact tb4 (List.mem_of_getElem? (i := 212) rfl) rfl
  | 42, _ => exact tb4 (List.mem_of_getElem? (i := 214) rfl) rfl
  | 43, _ => exact tb4 (List.mem_of_getElem? (i := 216) rfl) rfl
  | 44, _ => exact tb4 (List.mem_of_getElem? (i := 218) rfl) rfl
  | 45, _ => exact tb4 (List.mem_of_getElem? (i := 220) rfl) rfl
  | 46, _ => exact tb4 (List.mem_of_getElem? (i := 222) rfl) rfl
  | 47, _ => exact tb4 (List.mem_of_getElem? (i := 224) rfl) rfl
  | 48, _ => exact tb4 (List.mem_of_getElem? (i := 226) rfl) rfl
  | 49, _ => exact tb4 (List.mem_of_getElem? (i := 228) rfl) rfl
  | 50, _ => exact tb4 (List.mem_of_getElem? (i := 230) rfl) rfl
  | 51, _ => exact tb4 (List.mem_of_getElem? (i := 232) rfl) rfl
  | 52, _ => exact tb4 (List.mem_of_getElem? (i := 234) rfl) rfl
  | 53, _ => exact tb4 (List.mem_of_getElem? (i := 236) rfl) rfl
  | 54, _ => exact tb4 (List.mem_of_getElem? (i := 238) rfl) rfl
  | 55, _ => exact tb5 (List.mem_of_getElem? (i := 0) rfl) rfl
  | 56, _ => exact tb5 (List.mem_of_getElem? (i := 2) rfl) rfl
  | 57, _ => exact tb5 (List.mem_of_getElem? (i := 4) rfl) rfl
  | 58, _ => exact tb5 (List.mem_of_getElem? (i := 6) rfl) rfl
  | 59, _ => exact tb5 (List.mem_of_getElem? (i := 8) rfl) rfl
  | 60, _ => exact tb5 (List.mem_of_getElem? (i := 10) rfl) rfl
  | 61, _ => exact tb5 (List.mem_of_getElem? (i := 12) rfl) rfl
  | 62, _ => exact tb5 (List.mem_of_getElem? (i := 14) rfl) rfl
  | 63, _ => exact tb5 (List.mem_of_getElem? (i := 16) rfl) rfl
  | 64, _ => exact tb5 (List.mem_of_getElem? (i := 18) rfl) rfl
  | 65, _ => exact tb5 (List.mem_of_getElem? (i := 20) rfl) rfl
  | 66, _ => exact tb5 (List.mem_of_getElem? (i := 22) rfl) rfl
  | k + 67, h => exact absurd h (by omega)
theorem cfX9 : ∀ k, k < 67 → (cfT 9)[k]? = some (tyX9 k) := by decide +kernel
end
section
theorem dX0_init_0 : decode cX0_init 0 = .ok (.aload_n 0, 1) := by decide +kernel
theorem dX0_init_1 : decode cX0_init 1 = .ok (.invokespecial 3, 3) := by decide +kernel
theorem dX0_init_4 : decode cX0_init 4 = .ok (.aload_n 0, 1) := by decide +kernel
theorem dX0_init_5 : decode cX0_init 5 = .ok (.new 9, 3) := by decide +kernel
theorem dX0_init_8 : decode cX0_init 8 = .ok (.dup, 1) := by decide +kernel
theorem dX0_init_9 : decode cX0_init 9 = .ok (.invokespecial 11, 3) := by decide +kernel
theorem dX0_init_12 : decode cX0_init 12 = .ok (.putfield 12, 3) := by decide +kernel
theorem dX0_init_15 : decode cX0_init 15 = .ok (.aload_n 0, 1) := by decide +kernel
theorem dX0_init_16 : decode cX0_init 16 = .ok (.new 18, 3) := by decide +kernel
theorem dX0_init_19 : decode cX0_init 19 = .ok (.dup, 1) := by decide +kernel
theorem dX0_init_20 : decode cX0_init 20 = .ok (.invokespecial 20, 3) := by decide +kernel
theorem dX0_init_23 : decode cX0_init 23 = .ok (.putfield 21, 3) := by decide +kernel
theorem dX0_init_26 : decode cX0_init 26 = .ok (.return_, 1) := by decide +kernel
theorem dX0_firstBad_0 : decode cX0_firstBad 0 = .ok (.aload_n 0, 1) := by decide +kernel
theorem dX0_firstBad_1 : decode cX0_firstBad 1 = .ok (.getfield 12, 3) := by decide +kernel
theorem dX0_firstBad_4 : decode cX0_firstBad 4 = .ok (.invokevirtual 25, 3) := by decide +kernel
theorem dX0_firstBad_7 : decode cX0_firstBad 7 = .ok (.iconst 0, 1) := by decide +kernel
theorem dX0_firstBad_8 : decode cX0_firstBad 8 = .ok (.istore_n 3, 1) := by decide +kernel
theorem dX0_firstBad_9 : decode cX0_firstBad 9 = .ok (.iload_n 3, 1) := by decide +kernel
theorem dX0_firstBad_10 : decode cX0_firstBad 10 = .ok (.sipush 200, 3) := by decide +kernel
theorem dX0_firstBad_13 : decode cX0_firstBad 13 = .ok (.if_icmp .gt 89, 3) := by decide +kernel
theorem dX0_firstBad_16 : decode cX0_firstBad 16 = .ok (.aload_n 0, 1) := by decide +kernel
theorem dX0_firstBad_17 : decode cX0_firstBad 17 = .ok (.getfield 12, 3) := by decide +kernel
theorem dX0_firstBad_20 : decode cX0_firstBad 20 = .ok (.getfield 28, 3) := by decide +kernel
theorem dX0_firstBad_23 : decode cX0_firstBad 23 = .ok (.iload_n 3, 1) := by decide +kernel
theorem dX0_firstBad_24 : decode cX0_firstBad 24 = .ok (.iaload, 1) := by decide +kernel
theorem dX0_firstBad_25 : decode cX0_firstBad 25 = .ok (.aload_n 1, 1) := by decide +kernel
theorem dX0_firstBad_26 : decode cX0_firstBad 26 = .ok (.invokevirtual 32, 3) := by decide +kernel
theorem dX0_firstBad_29 : decode cX0_firstBad 29 = .ok (.if_icmp .ge 73, 3) := by decide +kernel
theorem dX0_firstBad_32 : decode cX0_firstBad 32 = .ok (.aload_n 2, 1) := by decide +kernel
theorem dX0_firstBad_33 : decode cX0_firstBad 33 = .ok (.iload_n 3, 1) := by decide +kernel
theorem dX0_firstBad_34 : decode cX0_firstBad 34 = .ok (.iaload, 1) := by decide +kernel
theorem dX0_firstBad_35 : decode cX0_firstBad 35 = .ok (.iconst (-1), 1) := by decide +kernel
theorem dX0_firstBad_36 : decode cX0_firstBad 36 = .ok (.if_icmp .eq 13, 3) := by decide +kernel
theorem dX0_firstBad_39 : decode cX0_firstBad 39 = .ok (.aload_n 0, 1) := by decide +kernel
theorem dX0_firstBad_40 : decode cX0_firstBad 40 = .ok (.getfield 12, 3) := by decide +kernel
theorem dX0_firstBad_43 : decode cX0_firstBad 43 = .ok (.aload_n 2, 1) := by decide +kernel
theorem dX0_firstBad_44 : decode cX0_firstBad 44 = .ok (.iload_n 3, 1) := by decide +kernel
theorem dX0_firstBad_45 : decode cX0_firstBad 45 = .ok (.iaload, 1) := by decide +kernel
theorem dX0_firstBad_46 : decode cX0_firstBad 46 = .ok (.invokevirtual 38, 3) := by decide +kernel
theorem dX0_firstBad_49 : decode cX0_firstBad 49 = .ok (.aload_n 0, 1) := by decide +kernel
theorem dX0_firstBad_50 : decode cX0_firstBad 50 = .ok (.getfield 12, 3) := by decide +kernel
theorem dX0_firstBad_53 : decode cX0_firstBad 53 = .ok (.getfield 42, 3) := by decide +kernel
theorem dX0_firstBad_56 : decode cX0_firstBad 56 = .ok (.iload_n 3, 1) := by decide +kernel
theorem dX0_firstBad_57 : decode cX0_firstBad 57 = .ok (.if_icmp .ne 17, 3) := by decide +kernel
theorem dX0_firstBad_60 : decode cX0_firstBad 60 = .ok (.aload_n 0, 1) := by decide +kernel
theorem dX0_firstBad_61 : decode cX0_firstBad 61 = .ok (.aload_n 1, 1) := by decide +kernel
theorem dX0_firstBad_62 : decode cX0_firstBad 62 = .ok (.aload_n 0, 1) := by decide +kernel
theorem dX0_firstBad_63 : decode cX0_firstBad 63 = .ok (.getfield 12, 3) := by decide +kernel
theorem dX0_firstBad_66 : decode cX0_firstBad 66 = .ok (.getfield 28, 3) := by decide +kernel
theorem dX0_firstBad_69 : decode cX0_firstBad 69 = .ok (.iload_n 3, 1) := by decide +kernel
theorem dX0_firstBad_70 : decode cX0_firstBad 70 = .ok (.iaload, 1) := by decide +kernel
theorem dX0_firstBad_71 : decode cX0_firstBad 71 = .ok (.invokevirtual 46, 3) := by decide +kernel
theorem dX0_firstBad_74 : decode cX0_firstBad 74 = .ok (.aload_n 0, 1) := by decide +kernel
theorem dX0_firstBad_75 : decode cX0_firstBad 75 = .ok (.getfield 12, 3) := by decide +kernel
theorem dX0_firstBad_78 : decode cX0_firstBad 78 = .ok (.getfield 42, 3) := by decide +kernel
theorem dX0_firstBad_81 : decode cX0_firstBad 81 = .ok (.iload_n 3, 1) := by decide +kernel
theorem dX0_firstBad_82 : decode cX0_firstBad 82 = .ok (.if_icmp .eq 12, 3) := by decide +kernel
theorem dX0_firstBad_85 : decode cX0_firstBad 85 = .ok (.aload_n 0, 1) := by decide +kernel
theorem dX0_firstBad_86 : decode cX0_firstBad 86 = .ok (.aload_n 1, 1) := by decide +kernel
theorem dX0_firstBad_87 : decode cX0_firstBad 87 = .ok (.iload_n 3, 1) := by decide +kernel
theorem dX0_firstBad_88 : decode cX0_firstBad 88 = .ok (.invokevirtual 50, 3) := by decide +kernel
theorem dX0_firstBad_91 : decode cX0_firstBad 91 = .ok (.ifCond .ne 5, 3) := by decide +kernel
theorem dX0_firstBad_94 : decode cX0_firstBad 94 = .ok (.iload_n 3, 1) := by decide +kernel
theorem dX0_firstBad_95 : decode cX0_firstBad 95 = .ok (.ireturn, 1) := by decide +kernel
theorem dX0_firstBad_96 : decode cX0_firstBad 96 = .ok (.iinc 3 1, 3) := by decide +kernel
theorem dX0_firstBad_99 : decode cX0_firstBad 99 = .ok (.goto (-90), 3) := by decide +kernel
theorem dX0_firstBad_102 : decode cX0_firstBad 102 = .ok (.iconst (-1), 1) := by decide +kernel
theorem dX0_firstBad_103 : decode cX0_firstBad 103 = .ok (.ireturn, 1) := by decide +kernel
theorem dX0_callAgain_0 : decode cX0_callAgain 0 = .ok (.aload_n 1, 1) := by decide +kernel
theorem dX0_callAgain_1 : decode cX0_callAgain 1 = .ok (.iload_n 2, 1) := by decide +kernel
theorem dX0_callAgain_2 : decode cX0_callAgain 2 = .ok (.iconst 1, 1) := by decide +kernel
theorem dX0_callAgain_3 : decode cX0_callAgain 3 = .ok (.iadd, 1) := by decide +kernel
theorem dX0_callAgain_4 : decode cX0_callAgain 4 = .ok (.bipush 8, 2) := by decide +kernel
theorem dX0_callAgain_6 : decode cX0_callAgain 6 = .ok (.invokevirtual 54, 3) := by decide +kernel
theorem dX0_callAgain_9 : decode cX0_callAgain 9 = .ok (.lstore_n 3, 1) := by decide +kernel
theorem dX0_callAgain_10 : decode cX0_callAgain 10 = .ok (.aload_n 1, 1) := by decide +kernel
theorem dX0_callAgain_11 : decode cX0_callAgain 11 = .ok (.iload_n 2, 1) := by decide +kernel
theorem dX0_callAgain_12 : decode cX0_callAgain 12 = .ok (.bipush 9, 2) := by decide +kernel
theorem dX0_callAgain_14 : decode cX0_callAgain 14 = .ok (.iadd, 1) := by decide +kernel
theorem dX0_callAgain_15 : decode cX0_callAgain 15 = .ok (.iconst 1, 1) := by decide +kernel
theorem dX0_callAgain_16 : decode cX0_callAgain 16 = .ok (.invokevirtual 54, 3) := by decide +kernel
theorem dX0_callAgain_19 : decode cX0_callAgain 19 = .ok (.l2i, 1) := by decide +kernel
theorem dX0_callAgain_20 : decode cX0_callAgain 20 = .ok (.istore 5, 2) := by decide +kernel
theorem dX0_callAgain_22 : decode cX0_callAgain 22 = .ok (.aload_n 1, 1) := by decide +kernel
theorem dX0_callAgain_23 : decode cX0_callAgain 23 = .ok (.iload_n 2, 1) := by decide +kernel
theorem dX0_callAgain_24 : decode cX0_callAgain 24 = .ok (.bipush 9, 2) := by decide +kernel
theorem dX0_callAgain_26 : decode cX0_callAgain 26 = .ok (.iadd, 1) := by decide +kernel
theorem dX0_callAgain_27 : decode cX0_callAgain 27 = .ok (.iconst 2, 1) := by decide +kernel
theorem dX0_callAgain_28 : decode cX0_callAgain 28 = .ok (.invokevirtual 54, 3) := by decide +kernel
theorem dX0_callAgain_31 : decode cX0_callAgain 31 = .ok (.l2i, 1) := by decide +kernel
theorem dX0_callAgain_32 : decode cX0_callAgain 32 = .ok (.istore 6, 2) := by decide +kernel
theorem dX0_callAgain_34 : decode cX0_callAgain 34 = .ok (.aload_n 1, 1) := by decide +kernel
theorem dX0_callAgain_35 : decode cX0_callAgain 35 = .ok (.iload_n 2, 1) := by decide +kernel
theorem dX0_callAgain_36 : decode cX0_callAgain 36 = .ok (.iconst 1, 1) := by decide +kernel
theorem dX0_callAgain_37 : decode cX0_callAgain 37 = .ok (.invokevirtual 54, 3) := by decide +kernel
theorem dX0_callAgain_40 : decode cX0_callAgain 40 = .ok (.l2i, 1) := by decide +kernel
theorem dX0_callAgain_41 : decode cX0_callAgain 41 = .ok (.tableswitch 171 1 6 #[39, 51, 79, 103, 123, 157], 39) := by decide +kernel
theorem dX0_callAgain_80 : decode cX0_callAgain 80 = .ok (.aload_n 0, 1) := by decide +kernel
theorem dX0_callAgain_81 : decode cX0_callAgain 81 = .ok (.getfield 12, 3) := by decide +kernel
theorem dX0_callAgain_84 : decode cX0_callAgain 84 = .ok (.lload_n 3, 1) := by decide +kernel
theorem dX0_callAgain_85 : decode cX0_callAgain 85 = .ok (.invokevirtual 58, 3) := by decide +kernel
theorem dX0_callAgain_88 : decode cX0_callAgain 88 = .ok (.pop, 1) := by decide +kernel
theorem dX0_callAgain_89 : decode cX0_callAgain 89 = .ok (.goto 123, 3) := by decide +kernel
theorem dX0_callAgain_92 : decode cX0_callAgain 92 = .ok (.aload_n 0, 1) := by decide +kernel
theorem dX0_callAgain_93 : decode cX0_callAgain 93 = .ok (.aload_n 1, 1) := by decide +kernel
theorem dX0_callAgain_94 : decode cX0_callAgain 94 = .ok (.iload_n 2, 1) := by decide +kernel
theorem dX0_callAgain_95 : decode cX0_callAgain 95 = .ok (.bipush 9, 2) := by decide +kernel
theorem dX0_callAgain_97 : decode cX0_callAgain 97 = .ok (.iadd, 1) := by decide +kernel
theorem dX0_callAgain_98 : decode cX0_callAgain 98 = .ok (.invokevirtual 62, 3) := by decide +kernel
theorem dX0_callAgain_101 : decode cX0_callAgain 101 = .ok (.ifCond .eq 111, 3) := by decide +kernel
theorem dX0_callAgain_104 : decode cX0_callAgain 104 = .ok (.aload_n 0, 1) := by decide +kernel
theorem dX0_callAgain_105 : decode cX0_callAgain 105 = .ok (.getfield 12, 3) := by decide +kernel
theorem dX0_callAgain_108 : decode cX0_callAgain 108 = .ok (.lload_n 3, 1) := by decide +kernel
theorem dX0_callAgain_109 : decode cX0_callAgain 109 = .ok (.aload_n 0, 1) := by decide +kernel
theorem dX0_callAgain_110 : decode cX0_callAgain 110 = .ok (.getfield 21, 3) := by decide +kernel
theorem dX0_callAgain_113 : decode cX0_callAgain 113 = .ok (.invokevirtual 65, 3) := by decide +kernel
theorem dX0_callAgain_116 : decode cX0_callAgain 116 = .ok (.pop, 1) := by decide +kernel
theorem dX0_callAgain_117 : decode cX0_callAgain 117 = .ok (.goto 95, 3) := by decide +kernel
theorem dX0_callAgain_120 : decode cX0_callAgain 120 = .ok (.aload_n 0, 1) := by decide +kernel
theorem dX0_callAgain_121 : decode cX0_callAgain 121 = .ok (.getfield 12, 3) := by decide +kernel
theorem dX0_callAgain_124 : decode cX0_callAgain 124 = .ok (.lload_n 3, 1) := by decide +kernel
theorem dX0_callAgain_125 : decode cX0_callAgain 125 = .ok (.iload 5, 2) := by decide +kernel
theorem dX0_callAgain_127 : decode cX0_callAgain 127 = .ok (.aload_n 1, 1) := by decide +kernel
theorem dX0_callAgain_128 : decode cX0_callAgain 128 = .ok (.iload_n 2, 1) := by decide +kernel
theorem dX0_callAgain_129 : decode cX0_callAgain 129 = .ok (.bipush 10, 2) := by decide +kernel
theorem dX0_callAgain_131 : decode cX0_callAgain 131 = .ok (.iadd, 1) := by decide +kernel
theorem dX0_callAgain_132 : decode cX0_callAgain 132 = .ok (.bipush 8, 2) := by decide +kernel
theorem dX0_callAgain_134 : decode cX0_callAgain 134 = .ok (.invokevirtual 54, 3) := by decide +kernel
theorem dX0_callAgain_137 : decode cX0_callAgain 137 = .ok (.invokevirtual 69, 3) := by decide +kernel
theorem dX0_callAgain_140 : decode cX0_callAgain 140 = .ok (.pop, 1) := by decide +kernel
theorem dX0_callAgain_141 : decode cX0_callAgain 141 = .ok (.goto 71, 3) := by decide +kernel
theorem dX0_callAgain_144 : decode cX0_callAgain 144 = .ok (.aload_n 0, 1) := by decide +kernel
theorem dX0_callAgain_145 : decode cX0_callAgain 145 = .ok (.getfield 12, 3) := by decide +kernel
theorem dX0_callAgain_148 : decode cX0_callAgain 148 = .ok (.aload_n 1, 1) := by decide +kernel
theorem dX0_callAgain_149 : decode cX0_callAgain 149 = .ok (.iload_n 2, 1) := by decide +kernel
theorem dX0_callAgain_150 : decode cX0_callAgain 150 = .ok (.iconst 1, 1) := by decide +kernel
theorem dX0_callAgain_151 : decode cX0_callAgain 151 = .ok (.iadd, 1) := by decide +kernel
theorem dX0_callAgain_152 : decode cX0_callAgain 152 = .ok (.iconst 2, 1) := by decide +kernel
theorem dX0_callAgain_153 : decode cX0_callAgain 153 = .ok (.invokevirtual 54, 3) := by decide +kernel
theorem dX0_callAgain_156 : decode cX0_callAgain 156 = .ok (.l2i, 1) := by decide +kernel
theorem dX0_callAgain_157 : decode cX0_callAgain 157 = .ok (.invokevirtual 73, 3) := by decide +kernel
theorem dX0_callAgain_160 : decode cX0_callAgain 160 = .ok (.pop, 1) := by decide +kernel
theorem dX0_callAgain_161 : decode cX0_callAgain 161 = .ok (.goto 51, 3) := by decide +kernel
theorem dX0_callAgain_164 : decode cX0_callAgain 164 = .ok (.aload_n 0, 1) := by decide +kernel
theorem dX0_callAgain_165 : decode cX0_callAgain 165 = .ok (.getfield 12, 3) := by decide +kernel
theorem dX0_callAgain_168 : decode cX0_callAgain 168 = .ok (.lload_n 3, 1) := by decide +kernel
theorem dX0_callAgain_169 : decode cX0_callAgain 169 = .ok (.iload 6, 2) := by decide +kernel
theorem dX0_callAgain_171 : decode cX0_callAgain 171 = .ok (.aload_n 1, 1) := by decide +kernel
theorem dX0_callAgain_172 : decode cX0_callAgain 172 = .ok (.iload_n 2, 1) := by decide +kernel
theorem dX0_callAgain_173 : decode cX0_callAgain 173 = .ok (.bipush 11, 2) := by decide +kernel
theorem dX0_callAgain_175 : decode cX0_callAgain 175 = .ok (.iadd, 1) := by decide +kernel
theorem dX0_callAgain_176 : decode cX0_callAgain 176 = .ok (.iconst 1, 1) := by decide +kernel
theorem dX0_callAgain_177 : decode cX0_callAgain 177 = .ok (.invokevirtual 54, 3) := by decide +kernel
theorem dX0_callAgain_180 : decode cX0_callAgain 180 = .ok (.l2i, 1) := by decide +kernel
theorem dX0_callAgain_181 : decode cX0_callAgain 181 = .ok (.aload_n 1, 1) := by decide +kernel
theorem dX0_callAgain_182 : decode cX0_callAgain 182 = .ok (.iload_n 2, 1) := by decide +kernel
theorem dX0_callAgain_183 : decode cX0_callAgain 183 = .ok (.bipush 12, 2) := by decide +kernel
theorem dX0_callAgain_185 : decode cX0_callAgain 185 = .ok (.iadd, 1) := by decide +kernel
theorem dX0_callAgain_186 : decode cX0_callAgain 186 = .ok (.bipush 8, 2) := by decide +kernel
theorem dX0_callAgain_188 : decode cX0_callAgain 188 = .ok (.invokevirtual 54, 3) := by decide +kernel
theorem dX0_callAgain_191 : decode cX0_callAgain 191 = .ok (.invokevirtual 77, 3) := by decide +kernel
theorem dX0_callAgain_194 : decode cX0_callAgain 194 = .ok (.pop, 1) := by decide +kernel
theorem dX0_callAgain_195 : decode cX0_callAgain 195 = .ok (.goto 17, 3) := by decide +kernel
theorem dX0_callAgain_198 : decode cX0_callAgain 198 = .ok (.aload_n 0, 1) := by decide +kernel
theorem dX0_callAgain_199 : decode cX0_callAgain 199 = .ok (.getfield 12, 3) := by decide +kernel
theorem dX0_callAgain_202 : decode cX0_callAgain 202 = .ok (.lload_n 3, 1) := by decide +kernel
theorem dX0_callAgain_203 : decode cX0_callAgain 203 = .ok (.iload 6, 2) := by decide +kernel
theorem dX0_callAgain_205 : decode cX0_callAgain 205 = .ok (.invokevirtual 81, 3) := by decide +kernel
theorem dX0_callAgain_208 : decode cX0_callAgain 208 = .ok (.pop, 1) := by decide +kernel
theorem dX0_callAgain_209 : decode cX0_callAgain 209 = .ok (.goto 3, 3) := by decide +kernel
theorem dX0_callAgain_212 : decode cX0_callAgain 212 = .ok (.return_, 1) := by decide +kernel
theorem dX0_readLegs_0 : decode cX0_readLegs 0 = .ok (.aload_n 0, 1) := by decide +kernel
theorem dX0_readLegs_1 : decode cX0_readLegs 1 = .ok (.getfield 21, 3) := by decide +kernel
theorem dX0_readLegs_4 : decode cX0_readLegs 4 = .ok (.iconst 0, 1) := by decide +kernel
theorem dX0_readLegs_5 : decode cX0_readLegs 5 = .ok (.putfield 85, 3) := by decide +kernel
theorem dX0_readLegs_8 : decode cX0_readLegs 8 = .ok (.aload_n 1, 1) := by decide +kernel
theorem dX0_readLegs_9 : decode cX0_readLegs 9 = .ok (.iload_n 2, 1) := by decide +kernel
theorem dX0_readLegs_10 : decode cX0_readLegs 10 = .ok (.iconst 1, 1) := by decide +kernel
theorem dX0_readLegs_11 : decode cX0_readLegs 11 = .ok (.invokevirtual 54, 3) := by decide +kernel
theorem dX0_readLegs_14 : decode cX0_readLegs 14 = .ok (.l2i, 1) := by decide +kernel
theorem dX0_readLegs_15 : decode cX0_readLegs 15 = .ok (.istore_n 3, 1) := by decide +kernel
theorem dX0_readLegs_16 : decode cX0_readLegs 16 = .ok (.iconst 0, 1) := by decide +kernel
theorem dX0_readLegs_17 : decode cX0_readLegs 17 = .ok (.istore 4, 2) := by decide +kernel
theorem dX0_readLegs_19 : decode cX0_readLegs 19 = .ok (.iload 4, 2) := by decide +kernel
theorem dX0_readLegs_21 : decode cX0_readLegs 21 = .ok (.iload_n 3, 1) := by decide +kernel
theorem dX0_readLegs_22 : decode cX0_readLegs 22 = .ok (.if_icmp .ge 50, 3) := by decide +kernel
theorem dX0_readLegs_25 : decode cX0_readLegs 25 = .ok (.iload_n 2, 1) := by decide +kernel
theorem dX0_readLegs_26 : decode cX0_readLegs 26 = .ok (.iconst 1, 1) := by decide +kernel
theorem dX0_readLegs_27 : decode cX0_readLegs 27 = .ok (.iadd, 1) := by decide +kernel
theorem dX0_readLegs_28 : decode cX0_readLegs 28 = .ok (.bipush 9, 2) := by decide +kernel
theorem dX0_readLegs_30 : decode cX0_readLegs 30 = .ok (.iload 4, 2) := by decide +kernel
theorem dX0_readLegs_32 : decode cX0_readLegs 32 = .ok (.imul, 1) := by decide +kernel
theorem dX0_readLegs_33 : decode cX0_readLegs 33 = .ok (.iadd, 1) := by decide +kernel
theorem dX0_readLegs_34 : decode cX0_readLegs 34 = .ok (.istore 5, 2) := by decide +kernel
theorem dX0_readLegs_36 : decode cX0_readLegs 36 = .ok (.aload_n 0, 1) := by decide +kernel
theorem dX0_readLegs_37 : decode cX0_readLegs 37 = .ok (.getfield 21, 3) := by decide +kernel
theorem dX0_readLegs_40 : decode cX0_readLegs 40 = .ok (.aload_n 1, 1) := by decide +kernel
theorem dX0_readLegs_41 : decode cX0_readLegs 41 = .ok (.iload 5, 2) := by decide +kernel
theorem dX0_readLegs_43 : decode cX0_readLegs 43 = .ok (.iconst 1, 1) := by decide +kernel
theorem dX0_readLegs_44 : decode cX0_readLegs 44 = .ok (.invokevirtual 54, 3) := by decide +kernel
theorem dX0_readLegs_47 : decode cX0_readLegs 47 = .ok (.l2i, 1) := by decide +kernel
theorem dX0_readLegs_48 : decode cX0_readLegs 48 = .ok (.aload_n 1, 1) := by decide +kernel
theorem dX0_readLegs_49 : decode cX0_readLegs 49 = .ok (.iload 5, 2) := by decide +kernel
theorem dX0_readLegs_51 : decode cX0_readLegs 51 = .ok (.iconst 1, 1) := by decide +kernel
theorem dX0_readLegs_52 : decode cX0_readLegs 52 = .ok (.iadd, 1) := by decide +kernel
theorem dX0_readLegs_53 : decode cX0_readLegs 53 = .ok (.bipush 8, 2) := by decide +kernel
theorem dX0_readLegs_55 : decode cX0_readLegs 55 = .ok (.invokevirtual 54, 3) := by decide +kernel
theorem dX0_readLegs_58 : decode cX0_readLegs 58 = .ok (.invokevirtual 87, 3) := by decide +kernel
theorem dX0_readLegs_61 : decode cX0_readLegs 61 = .ok (.ifCond .ne 5, 3) := by decide +kernel
theorem dX0_readLegs_64 : decode cX0_readLegs 64 = .ok (.iconst 0, 1) := by decide +kernel
theorem dX0_readLegs_65 : decode cX0_readLegs 65 = .ok (.ireturn, 1) := by decide +kernel
theorem dX0_readLegs_66 : decode cX0_readLegs 66 = .ok (.iinc 4 1, 3) := by decide +kernel
theorem dX0_readLegs_69 : decode cX0_readLegs 69 = .ok (.goto (-50), 3) := by decide +kernel
theorem dX0_readLegs_72 : decode cX0_readLegs 72 = .ok (.iconst 1, 1) := by decide +kernel
theorem dX0_readLegs_73 : decode cX0_readLegs 73 = .ok (.ireturn, 1) := by decide +kernel
theorem dX0_stands_0 : decode cX0_stands 0 = .ok (.aload_n 0, 1) := by decide +kernel
theorem dX0_stands_1 : decode cX0_stands 1 = .ok (.getfield 12, 3) := by decide +kernel
theorem dX0_stands_4 : decode cX0_stands 4 = .ok (.getfield 28, 3) := by decide +kernel
theorem dX0_stands_7 : decode cX0_stands 7 = .ok (.iload_n 2, 1) := by decide +kernel
theorem dX0_stands_8 : decode cX0_stands 8 = .ok (.iconst 1, 1) := by decide +kernel
theorem dX0_stands_9 : decode cX0_stands 9 = .ok (.iadd, 1) := by decide +kernel
theorem dX0_stands_10 : decode cX0_stands 10 = .ok (.iaload, 1) := by decide +kernel
theorem dX0_stands_11 : decode cX0_stands 11 = .ok (.aload_n 1, 1) := by decide +kernel
theorem dX0_stands_12 : decode cX0_stands 12 = .ok (.invokevirtual 32, 3) := by decide +kernel
theorem dX0_stands_15 : decode cX0_stands 15 = .ok (.if_icmp .le 5, 3) := by decide +kernel
theorem dX0_stands_18 : decode cX0_stands 18 = .ok (.iconst 0, 1) := by decide +kernel
theorem dX0_stands_19 : decode cX0_stands 19 = .ok (.ireturn, 1) := by decide +kernel
theorem dX0_stands_20 : decode cX0_stands 20 = .ok (.aload_n 0, 1) := by decide +kernel
theorem dX0_stands_21 : decode cX0_stands 21 = .ok (.getfield 12, 3) := by decide +kernel
theorem dX0_stands_24 : decode cX0_stands 24 = .ok (.getfield 28, 3) := by decide +kernel
theorem dX0_stands_27 : decode cX0_stands 27 = .ok (.iload_n 2, 1) := by decide +kernel
theorem dX0_stands_28 : decode cX0_stands 28 = .ok (.iaload, 1) := by decide +kernel
theorem dX0_stands_29 : decode cX0_stands 29 = .ok (.istore_n 3, 1) := by decide +kernel
theorem dX0_stands_30 : decode cX0_stands 30 = .ok (.iload_n 3, 1) := by decide +kernel
theorem dX0_stands_31 : decode cX0_stands 31 = .ok (.aload_n 0, 1) := by decide +kernel
theorem dX0_stands_32 : decode cX0_stands 32 = .ok (.getfield 12, 3) := by decide +kernel
theorem dX0_stands_35 : decode cX0_stands 35 = .ok (.getfield 28, 3) := by decide +kernel
theorem dX0_stands_38 : decode cX0_stands 38 = .ok (.iload_n 2, 1) := by decide +kernel
theorem dX0_stands_39 : decode cX0_stands 39 = .ok (.iconst 1, 1) := by decide +kernel
theorem dX0_stands_40 : decode cX0_stands 40 = .ok (.iadd, 1) := by decide +kernel
theorem dX0_stands_41 : decode cX0_stands 41 = .ok (.iaload, 1) := by decide +kernel
theorem dX0_stands_42 : decode cX0_stands 42 = .ok (.if_icmp .ge 29, 3) := by decide +kernel
theorem dX0_stands_45 : decode cX0_stands 45 = .ok (.aload_n 0, 1) := by decide +kernel
theorem dX0_stands_46 : decode cX0_stands 46 = .ok (.getfield 12, 3) := by decide +kernel
theorem dX0_stands_49 : decode cX0_stands 49 = .ok (.getfield 91, 3) := by decide +kernel
theorem dX0_stands_52 : decode cX0_stands 52 = .ok (.iload_n 3, 1) := by decide +kernel
theorem dX0_stands_53 : decode cX0_stands 53 = .ok (.baload, 1) := by decide +kernel
theorem dX0_stands_54 : decode cX0_stands 54 = .ok (.aload_n 1, 1) := by decide +kernel
theorem dX0_stands_55 : decode cX0_stands 55 = .ok (.getfield 95, 3) := by decide +kernel
theorem dX0_stands_58 : decode cX0_stands 58 = .ok (.iload_n 3, 1) := by decide +kernel
theorem dX0_stands_59 : decode cX0_stands 59 = .ok (.baload, 1) := by decide +kernel
theorem dX0_stands_60 : decode cX0_stands 60 = .ok (.if_icmp .eq 5, 3) := by decide +kernel
theorem dX0_stands_63 : decode cX0_stands 63 = .ok (.iconst 0, 1) := by decide +kernel
theorem dX0_stands_64 : decode cX0_stands 64 = .ok (.ireturn, 1) := by decide +kernel
theorem dX0_stands_65 : decode cX0_stands 65 = .ok (.iinc 3 1, 3) := by decide +kernel
theorem dX0_stands_68 : decode cX0_stands 68 = .ok (.goto (-38), 3) := by decide +kernel
theorem dX0_stands_71 : decode cX0_stands 71 = .ok (.iconst 1, 1) := by decide +kernel
theorem dX0_stands_72 : decode cX0_stands 72 = .ok (.ireturn, 1) := by decide +kernel
theorem dX1_init_0 : decode cX1_init 0 = .ok (.aload_n 0, 1) := by decide +kernel
theorem dX1_init_1 : decode cX1_init 1 = .ok (.invokespecial 3, 3) := by decide +kernel
theorem dX1_init_4 : decode cX1_init 4 = .ok (.aload_n 0, 1) := by decide +kernel
theorem dX1_init_5 : decode cX1_init 5 = .ok (.bipush 82, 2) := by decide +kernel
theorem dX1_init_7 : decode cX1_init 7 = .ok (.newarray .byte, 2) := by decide +kernel
theorem dX1_init_9 : decode cX1_init 9 = .ok (.putfield 9, 3) := by decide +kernel
theorem dX1_init_12 : decode cX1_init 12 = .ok (.return_, 1) := by decide +kernel
theorem dX1_begin_0 : decode cX1_begin 0 = .ok (.aload_n 0, 1) := by decide +kernel
theorem dX1_begin_1 : decode cX1_begin 1 = .ok (.iconst 0, 1) := by decide +kernel
theorem dX1_begin_2 : decode cX1_begin 2 = .ok (.putfield 15, 3) := by decide +kernel
theorem dX1_begin_5 : decode cX1_begin 5 = .ok (.aload_n 0, 1) := by decide +kernel
theorem dX1_begin_6 : decode cX1_begin 6 = .ok (.iload_n 1, 1) := by decide +kernel
theorem dX1_begin_7 : decode cX1_begin 7 = .ok (.i2l, 1) := by decide +kernel
theorem dX1_begin_8 : decode cX1_begin 8 = .ok (.iconst 1, 1) := by decide +kernel
theorem dX1_begin_9 : decode cX1_begin 9 = .ok (.invokevirtual 19, 3) := by decide +kernel
theorem dX1_begin_12 : decode cX1_begin 12 = .ok (.return_, 1) := by decide +kernel
theorem dX1_beginKeyed_0 : decode cX1_beginKeyed 0 = .ok (.aload_n 0, 1) := by decide +kernel
theorem dX1_beginKeyed_1 : decode cX1_beginKeyed 1 = .ok (.iload_n 1, 1) := by decide +kernel
theorem dX1_beginKeyed_2 : decode cX1_beginKeyed 2 = .ok (.invokevirtual 23, 3) := by decide +kernel
theorem dX1_beginKeyed_5 : decode cX1_beginKeyed 5 = .ok (.aload_n 0, 1) := by decide +kernel
theorem dX1_beginKeyed_6 : decode cX1_beginKeyed 6 = .ok (.lload_n 2, 1) := by decide +kernel
theorem dX1_beginKeyed_7 : decode cX1_beginKeyed 7 = .ok (.bipush 8, 2) := by decide +kernel
theorem dX1_beginKeyed_9 : decode cX1_beginKeyed 9 = .ok (.invokevirtual 19, 3) := by decide +kernel
theorem dX1_beginKeyed_12 : decode cX1_beginKeyed 12 = .ok (.return_, 1) := by decide +kernel
theorem dX1_add_0 : decode cX1_add 0 = .ok (.iload_n 3, 1) := by decide +kernel
theorem dX1_add_1 : decode cX1_add 1 = .ok (.iconst 1, 1) := by decide +kernel
theorem dX1_add_2 : decode cX1_add 2 = .ok (.isub, 1) := by decide +kernel
theorem dX1_add_3 : decode cX1_add 3 = .ok (.istore 4, 2) := by decide +kernel
theorem dX1_add_5 : decode cX1_add 5 = .ok (.iload 4, 2) := by decide +kernel
theorem dX1_add_7 : decode cX1_add 7 = .ok (.ifCond .lt 46, 3) := by decide +kernel
theorem dX1_add_10 : decode cX1_add 10 = .ok (.aload_n 0, 1) := by decide +kernel
theorem dX1_add_11 : decode cX1_add 11 = .ok (.getfield 15, 3) := by decide +kernel
theorem dX1_add_14 : decode cX1_add 14 = .ok (.bipush 82, 2) := by decide +kernel
theorem dX1_add_16 : decode cX1_add 16 = .ok (.if_icmp .ge 31, 3) := by decide +kernel
theorem dX1_add_19 : decode cX1_add 19 = .ok (.aload_n 0, 1) := by decide +kernel
theorem dX1_add_20 : decode cX1_add 20 = .ok (.getfield 9, 3) := by decide +kernel
theorem dX1_add_23 : decode cX1_add 23 = .ok (.aload_n 0, 1) := by decide +kernel
theorem dX1_add_24 : decode cX1_add 24 = .ok (.getfield 15, 3) := by decide +kernel
theorem dX1_add_27 : decode cX1_add 27 = .ok (.lload_n 1, 1) := by decide +kernel
theorem dX1_add_28 : decode cX1_add 28 = .ok (.bipush 8, 2) := by decide +kernel
theorem dX1_add_30 : decode cX1_add 30 = .ok (.iload 4, 2) := by decide +kernel
theorem dX1_add_32 : decode cX1_add 32 = .ok (.imul, 1) := by decide +kernel
theorem dX1_add_33 : decode cX1_add 33 = .ok (.lushr, 1) := by decide +kernel
theorem dX1_add_34 : decode cX1_add 34 = .ok (.l2i, 1) := by decide +kernel
theorem dX1_add_35 : decode cX1_add 35 = .ok (.i2b, 1) := by decide +kernel
theorem dX1_add_36 : decode cX1_add 36 = .ok (.bastore, 1) := by decide +kernel
theorem dX1_add_37 : decode cX1_add 37 = .ok (.aload_n 0, 1) := by decide +kernel
theorem dX1_add_38 : decode cX1_add 38 = .ok (.dup, 1) := by decide +kernel
theorem dX1_add_39 : decode cX1_add 39 = .ok (.getfield 15, 3) := by decide +kernel
theorem dX1_add_42 : decode cX1_add 42 = .ok (.iconst 1, 1) := by decide +kernel
theorem dX1_add_43 : decode cX1_add 43 = .ok (.iadd, 1) := by decide +kernel
theorem dX1_add_44 : decode cX1_add 44 = .ok (.putfield 15, 3) := by decide +kernel
theorem dX1_add_47 : decode cX1_add 47 = .ok (.iinc 4 (-1), 3) := by decide +kernel
theorem dX1_add_50 : decode cX1_add 50 = .ok (.goto (-45), 3) := by decide +kernel
theorem dX1_add_53 : decode cX1_add 53 = .ok (.return_, 1) := by decide +kernel
theorem dX2_init_0 : decode cX2_init 0 = .ok (.aload_n 0, 1) := by decide +kernel
theorem dX2_init_1 : decode cX2_init 1 = .ok (.invokespecial 3, 3) := by decide +kernel
theorem dX2_init_4 : decode cX2_init 4 = .ok (.aload_n 0, 1) := by decide +kernel
theorem dX2_init_5 : decode cX2_init 5 = .ok (.bipush 8, 2) := by decide +kernel
theorem dX2_init_7 : decode cX2_init 7 = .ok (.newarray .int, 2) := by decide +kernel
theorem dX2_init_9 : decode cX2_init 9 = .ok (.putfield 9, 3) := by decide +kernel
theorem dX2_init_12 : decode cX2_init 12 = .ok (.aload_n 0, 1) := by decide +kernel
theorem dX2_init_13 : decode cX2_init 13 = .ok (.bipush 8, 2) := by decide +kernel
theorem dX2_init_15 : decode cX2_init 15 = .ok (.newarray .int, 2) := by decide +kernel
theorem dX2_init_17 : decode cX2_init 17 = .ok (.putfield 15, 3) := by decide +kernel
theorem dX2_init_20 : decode cX2_init 20 = .ok (.aload_n 0, 1) := by decide +kernel
theorem dX2_init_21 : decode cX2_init 21 = .ok (.iconst (-1), 1) := by decide +kernel
theorem dX2_init_22 : decode cX2_init 22 = .ok (.putfield 18, 3) := by decide +kernel
theorem dX2_init_25 : decode cX2_init 25 = .ok (.return_, 1) := by decide +kernel
theorem dX3_init_0 : decode cX3_init 0 = .ok (.aload_n 0, 1) := by decide +kernel
theorem dX3_init_1 : decode cX3_init 1 = .ok (.invokespecial 3, 3) := by decide +kernel
theorem dX3_init_4 : decode cX3_init 4 = .ok (.aload_n 0, 1) := by decide +kernel
theorem dX3_init_5 : decode cX3_init 5 = .ok (.bipush 40, 2) := by decide +kernel
theorem dX3_init_7 : decode cX3_init 7 = .ok (.newarray .long, 2) := by decide +kernel
theorem dX3_init_9 : decode cX3_init 9 = .ok (.putfield 9, 3) := by decide +kernel
theorem dX3_init_12 : decode cX3_init 12 = .ok (.aload_n 0, 1) := by decide +kernel
theorem dX3_init_13 : decode cX3_init 13 = .ok (.bipush 40, 2) := by decide +kernel
theorem dX3_init_15 : decode cX3_init 15 = .ok (.newarray .long, 2) := by decide +kernel
theorem dX3_init_17 : decode cX3_init 17 = .ok (.putfield 15, 3) := by decide +kernel
theorem dX3_init_20 : decode cX3_init 20 = .ok (.aload_n 0, 1) := by decide +kernel
theorem dX3_init_21 : decode cX3_init 21 = .ok (.bipush 40, 2) := by decide +kernel
theorem dX3_init_23 : decode cX3_init 23 = .ok (.newarray .long, 2) := by decide +kernel
theorem dX3_init_25 : decode cX3_init 25 = .ok (.putfield 18, 3) := by decide +kernel
theorem dX3_init_28 : decode cX3_init 28 = .ok (.aload_n 0, 1) := by decide +kernel
theorem dX3_init_29 : decode cX3_init 29 = .ok (.bipush 40, 2) := by decide +kernel
theorem dX3_init_31 : decode cX3_init 31 = .ok (.newarray .long, 2) := by decide +kernel
theorem dX3_init_33 : decode cX3_init 33 = .ok (.putfield 21, 3) := by decide +kernel
theorem dX3_init_36 : decode cX3_init 36 = .ok (.aload_n 0, 1) := by decide +kernel
theorem dX3_init_37 : decode cX3_init 37 = .ok (.sipush 16400, 3) := by decide +kernel
theorem dX3_init_40 : decode cX3_init 40 = .ok (.newarray .byte, 2) := by decide +kernel
theorem dX3_init_42 : decode cX3_init 42 = .ok (.putfield 24, 3) := by decide +kernel
theorem dX3_init_45 : decode cX3_init 45 = .ok (.aload_n 0, 1) := by decide +kernel
theorem dX3_init_46 : decode cX3_init 46 = .ok (.sipush 201, 3) := by decide +kernel
theorem dX3_init_49 : decode cX3_init 49 = .ok (.newarray .int, 2) := by decide +kernel
theorem dX3_init_51 : decode cX3_init 51 = .ok (.putfield 28, 3) := by decide +kernel
theorem dX3_init_54 : decode cX3_init 54 = .ok (.aload_n 0, 1) := by decide +kernel
theorem dX3_init_55 : decode cX3_init 55 = .ok (.sipush 200, 3) := by decide +kernel
theorem dX3_init_58 : decode cX3_init 58 = .ok (.newarray .long, 2) := by decide +kernel
theorem dX3_init_60 : decode cX3_init 60 = .ok (.putfield 32, 3) := by decide +kernel
theorem dX3_init_63 : decode cX3_init 63 = .ok (.aload_n 0, 1) := by decide +kernel
theorem dX3_init_64 : decode cX3_init 64 = .ok (.sipush 200, 3) := by decide +kernel
theorem dX3_init_67 : decode cX3_init 67 = .ok (.newarray .int, 2) := by decide +kernel
theorem dX3_init_69 : decode cX3_init 69 = .ok (.putfield 35, 3) := by decide +kernel
theorem dX3_init_72 : decode cX3_init 72 = .ok (.aload_n 0, 1) := by decide +kernel
theorem dX3_init_73 : decode cX3_init 73 = .ok (.sipush 200, 3) := by decide +kernel
theorem dX3_init_76 : decode cX3_init 76 = .ok (.newarray .int, 2) := by decide +kernel
theorem dX3_init_78 : decode cX3_init 78 = .ok (.putfield 38, 3) := by decide +kernel
theorem dX3_init_81 : decode cX3_init 81 = .ok (.aload_n 0, 1) := by decide +kernel
theorem dX3_init_82 : decode cX3_init 82 = .ok (.sipush 1600, 3) := by decide +kernel
theorem dX3_init_85 : decode cX3_init 85 = .ok (.newarray .int, 2) := by decide +kernel
theorem dX3_init_87 : decode cX3_init 87 = .ok (.putfield 41, 3) := by decide +kernel
theorem dX3_init_90 : decode cX3_init 90 = .ok (.aload_n 0, 1) := by decide +kernel
theorem dX3_init_91 : decode cX3_init 91 = .ok (.sipush 1600, 3) := by decide +kernel
theorem dX3_init_94 : decode cX3_init 94 = .ok (.newarray .long, 2) := by decide +kernel
theorem dX3_init_96 : decode cX3_init 96 = .ok (.putfield 44, 3) := by decide +kernel
theorem dX3_init_99 : decode cX3_init 99 = .ok (.aload_n 0, 1) := by decide +kernel
theorem dX3_init_100 : decode cX3_init 100 = .ok (.new 47, 3) := by decide +kernel
theorem dX3_init_103 : decode cX3_init 103 = .ok (.dup, 1) := by decide +kernel
theorem dX3_init_104 : decode cX3_init 104 = .ok (.invokespecial 49, 3) := by decide +kernel
theorem dX3_init_107 : decode cX3_init 107 = .ok (.putfield 50, 3) := by decide +kernel
theorem dX3_init_110 : decode cX3_init 110 = .ok (.aload_n 0, 1) := by decide +kernel
theorem dX3_init_111 : decode cX3_init 111 = .ok (.new 54, 3) := by decide +kernel
theorem dX3_init_114 : decode cX3_init 114 = .ok (.dup, 1) := by decide +kernel
theorem dX3_init_115 : decode cX3_init 115 = .ok (.invokespecial 56, 3) := by decide +kernel
theorem dX3_init_118 : decode cX3_init 118 = .ok (.putfield 57, 3) := by decide +kernel
theorem dX3_init_121 : decode cX3_init 121 = .ok (.return_, 1) := by decide +kernel
theorem dX3_startAnew_0 : decode cX3_startAnew 0 = .ok (.aload_n 0, 1) := by decide +kernel
theorem dX3_startAnew_1 : decode cX3_startAnew 1 = .ok (.iconst 0, 1) := by decide +kernel
theorem dX3_startAnew_2 : decode cX3_startAnew 2 = .ok (.putfield 61, 3) := by decide +kernel
theorem dX3_startAnew_5 : decode cX3_startAnew 5 = .ok (.aload_n 0, 1) := by decide +kernel
theorem dX3_startAnew_6 : decode cX3_startAnew 6 = .ok (.iconst 0, 1) := by decide +kernel
theorem dX3_startAnew_7 : decode cX3_startAnew 7 = .ok (.putfield 65, 3) := by decide +kernel
theorem dX3_startAnew_10 : decode cX3_startAnew 10 = .ok (.aload_n 0, 1) := by decide +kernel
theorem dX3_startAnew_11 : decode cX3_startAnew 11 = .ok (.iconst 0, 1) := by decide +kernel
theorem dX3_startAnew_12 : decode cX3_startAnew 12 = .ok (.putfield 68, 3) := by decide +kernel
theorem dX3_startAnew_15 : decode cX3_startAnew 15 = .ok (.aload_n 0, 1) := by decide +kernel
theorem dX3_startAnew_16 : decode cX3_startAnew 16 = .ok (.iconst 0, 1) := by decide +kernel
theorem dX3_startAnew_17 : decode cX3_startAnew 17 = .ok (.invokevirtual 71, 3) := by decide +kernel
theorem dX3_startAnew_20 : decode cX3_startAnew 20 = .ok (.return_, 1) := by decide +kernel
theorem dX3_startEvery_0 : decode cX3_startEvery 0 = .ok (.aload_n 0, 1) := by decide +kernel
theorem dX3_startEvery_1 : decode cX3_startEvery 1 = .ok (.iload_n 1, 1) := by decide +kernel
theorem dX3_startEvery_2 : decode cX3_startEvery 2 = .ok (.putfield 75, 3) := by decide +kernel
theorem dX3_startEvery_5 : decode cX3_startEvery 5 = .ok (.aload_n 0, 1) := by decide +kernel
theorem dX3_startEvery_6 : decode cX3_startEvery 6 = .ok (.iconst 0, 1) := by decide +kernel
theorem dX3_startEvery_7 : decode cX3_startEvery 7 = .ok (.putfield 78, 3) := by decide +kernel
theorem dX3_startEvery_10 : decode cX3_startEvery 10 = .ok (.return_, 1) := by decide +kernel
theorem dX3_addAccount_0 : decode cX3_addAccount 0 = .ok (.lload_n 1, 1) := by decide +kernel
theorem dX3_addAccount_1 : decode cX3_addAccount 1 = .ok (.lconst 0, 1) := by decide +kernel
theorem dX3_addAccount_2 : decode cX3_addAccount 2 = .ok (.lcmp, 1) := by decide +kernel
theorem dX3_addAccount_3 : decode cX3_addAccount 3 = .ok (.ifCond .le 6, 3) := by decide +kernel
theorem dX3_addAccount_6 : decode cX3_addAccount 6 = .ok (.bipush (-6), 2) := by decide +kernel
theorem dX3_addAccount_8 : decode cX3_addAccount 8 = .ok (.ireturn, 1) := by decide +kernel
theorem dX3_addAccount_9 : decode cX3_addAccount 9 = .ok (.aload_n 0, 1) := by decide +kernel
theorem dX3_addAccount_10 : decode cX3_addAccount 10 = .ok (.getfield 65, 3) := by decide +kernel
theorem dX3_addAccount_13 : decode cX3_addAccount 13 = .ok (.sipush 200, 3) := by decide +kernel
theorem dX3_addAccount_16 : decode cX3_addAccount 16 = .ok (.if_icmp .lt 6, 3) := by decide +kernel
theorem dX3_addAccount_19 : decode cX3_addAccount 19 = .ok (.bipush (-8), 2) := by decide +kernel
theorem dX3_addAccount_21 : decode cX3_addAccount 21 = .ok (.ireturn, 1) := by decide +kernel
theorem dX3_addAccount_22 : decode cX3_addAccount 22 = .ok (.aload_n 0, 1) := by decide +kernel
theorem dX3_addAccount_23 : decode cX3_addAccount 23 = .ok (.getfield 61, 3) := by decide +kernel
theorem dX3_addAccount_26 : decode cX3_addAccount 26 = .ok (.bipush 40, 2) := by decide +kernel
theorem dX3_addAccount_28 : decode cX3_addAccount 28 = .ok (.if_icmp .lt 5, 3) := by decide +kernel
theorem dX3_addAccount_31 : decode cX3_addAccount 31 = .ok (.iconst (-1), 1) := by decide +kernel
theorem dX3_addAccount_32 : decode cX3_addAccount 32 = .ok (.ireturn, 1) := by decide +kernel
theorem dX3_addAccount_33 : decode cX3_addAccount 33 = .ok (.aload_n 0, 1) := by decide +kernel
theorem dX3_addAccount_34 : decode cX3_addAccount 34 = .ok (.getfield 61, 3) := by decide +kernel
theorem dX3_addAccount_37 : decode cX3_addAccount 37 = .ok (.istore_n 3, 1) := by decide +kernel
theorem dX3_addAccount_38 : decode cX3_addAccount 38 = .ok (.aload_n 0, 1) := by decide +kernel
theorem dX3_addAccount_39 : decode cX3_addAccount 39 = .ok (.getfield 9, 3) := by decide +kernel
theorem dX3_addAccount_42 : decode cX3_addAccount 42 = .ok (.iload_n 3, 1) := by decide +kernel
theorem dX3_addAccount_43 : decode cX3_addAccount 43 = .ok (.lload_n 1, 1) := by decide +kernel
theorem dX3_addAccount_44 : decode cX3_addAccount 44 = .ok (.lastore, 1) := by decide +kernel
theorem dX3_addAccount_45 : decode cX3_addAccount 45 = .ok (.aload_n 0, 1) := by decide +kernel
theorem dX3_addAccount_46 : decode cX3_addAccount 46 = .ok (.getfield 15, 3) := by decide +kernel
theorem dX3_addAccount_49 : decode cX3_addAccount 49 = .ok (.iload_n 3, 1) := by decide +kernel
theorem dX3_addAccount_50 : decode cX3_addAccount 50 = .ok (.lconst 0, 1) := by decide +kernel
theorem dX3_addAccount_51 : decode cX3_addAccount 51 = .ok (.lastore, 1) := by decide +kernel
theorem dX3_addAccount_52 : decode cX3_addAccount 52 = .ok (.aload_n 0, 1) := by decide +kernel
theorem dX3_addAccount_53 : decode cX3_addAccount 53 = .ok (.getfield 18, 3) := by decide +kernel
theorem dX3_addAccount_56 : decode cX3_addAccount 56 = .ok (.iload_n 3, 1) := by decide +kernel
theorem dX3_addAccount_57 : decode cX3_addAccount 57 = .ok (.lconst 0, 1) := by decide +kernel
theorem dX3_addAccount_58 : decode cX3_addAccount 58 = .ok (.lastore, 1) := by decide +kernel
theorem dX3_addAccount_59 : decode cX3_addAccount 59 = .ok (.aload_n 0, 1) := by decide +kernel
theorem dX3_addAccount_60 : decode cX3_addAccount 60 = .ok (.dup, 1) := by decide +kernel
theorem dX3_addAccount_61 : decode cX3_addAccount 61 = .ok (.getfield 61, 3) := by decide +kernel
theorem dX3_addAccount_64 : decode cX3_addAccount 64 = .ok (.iconst 1, 1) := by decide +kernel
theorem dX3_addAccount_65 : decode cX3_addAccount 65 = .ok (.iadd, 1) := by decide +kernel
theorem dX3_addAccount_66 : decode cX3_addAccount 66 = .ok (.putfield 61, 3) := by decide +kernel
theorem dX3_addAccount_69 : decode cX3_addAccount 69 = .ok (.aload_n 0, 1) := by decide +kernel
theorem dX3_addAccount_70 : decode cX3_addAccount 70 = .ok (.getfield 50, 3) := by decide +kernel
theorem dX3_addAccount_73 : decode cX3_addAccount 73 = .ok (.iconst 1, 1) := by decide +kernel
theorem dX3_addAccount_74 : decode cX3_addAccount 74 = .ok (.invokevirtual 81, 3) := by decide +kernel
theorem dX3_addAccount_77 : decode cX3_addAccount 77 = .ok (.aload_n 0, 1) := by decide +kernel
theorem dX3_addAccount_78 : decode cX3_addAccount 78 = .ok (.getfield 50, 3) := by decide +kernel
theorem dX3_addAccount_81 : decode cX3_addAccount 81 = .ok (.lload_n 1, 1) := by decide +kernel
theorem dX3_addAccount_82 : decode cX3_addAccount 82 = .ok (.bipush 8, 2) := by decide +kernel
theorem dX3_addAccount_84 : decode cX3_addAccount 84 = .ok (.invokevirtual 84, 3) := by decide +kernel
theorem dX3_addAccount_87 : decode cX3_addAccount 87 = .ok (.aload_n 0, 1) := by decide +kernel
theorem dX3_addAccount_88 : decode cX3_addAccount 88 = .ok (.lconst 0, 1) := by decide +kernel
theorem dX3_addAccount_89 : decode cX3_addAccount 89 = .ok (.invokevirtual 88, 3) := by decide +kernel
theorem dX3_addAccount_92 : decode cX3_addAccount 92 = .ok (.pop, 1) := by decide +kernel
theorem dX3_addAccount_93 : decode cX3_addAccount 93 = .ok (.iload_n 3, 1) := by decide +kernel
theorem dX3_addAccount_94 : decode cX3_addAccount 94 = .ok (.ireturn, 1) := by decide +kernel
theorem dX3_addPost_0 : decode cX3_addPost 0 = .ok (.aload_n 3, 1) := by decide +kernel
theorem dX3_addPost_1 : decode cX3_addPost 1 = .ok (.getfield 92, 3) := by decide +kernel
theorem dX3_addPost_4 : decode cX3_addPost 4 = .ok (.ifCond .eq 9, 3) := by decide +kernel
theorem dX3_addPost_7 : decode cX3_addPost 7 = .ok (.lload_n 1, 1) := by decide +kernel
theorem dX3_addPost_8 : decode cX3_addPost 8 = .ok (.lconst 0, 1) := by decide +kernel
theorem dX3_addPost_9 : decode cX3_addPost 9 = .ok (.lcmp, 1) := by decide +kernel
theorem dX3_addPost_10 : decode cX3_addPost 10 = .ok (.ifCond .ne 5, 3) := by decide +kernel
theorem dX3_addPost_13 : decode cX3_addPost 13 = .ok (.iconst (-1), 1) := by decide +kernel
theorem dX3_addPost_14 : decode cX3_addPost 14 = .ok (.ireturn, 1) := by decide +kernel
theorem dX3_addPost_15 : decode cX3_addPost 15 = .ok (.aload_n 0, 1) := by decide +kernel
theorem dX3_addPost_16 : decode cX3_addPost 16 = .ok (.getfield 50, 3) := by decide +kernel
theorem dX3_addPost_19 : decode cX3_addPost 19 = .ok (.iconst 2, 1) := by decide +kernel
theorem dX3_addPost_20 : decode cX3_addPost 20 = .ok (.lload_n 1, 1) := by decide +kernel
theorem dX3_addPost_21 : decode cX3_addPost 21 = .ok (.invokevirtual 95, 3) := by decide +kernel
theorem dX3_addPost_24 : decode cX3_addPost 24 = .ok (.aload_n 0, 1) := by decide +kernel
theorem dX3_addPost_25 : decode cX3_addPost 25 = .ok (.getfield 50, 3) := by decide +kernel
theorem dX3_addPost_28 : decode cX3_addPost 28 = .ok (.aload_n 3, 1) := by decide +kernel
theorem dX3_addPost_29 : decode cX3_addPost 29 = .ok (.getfield 92, 3) := by decide +kernel
theorem dX3_addPost_32 : decode cX3_addPost 32 = .ok (.i2l, 1) := by decide +kernel
theorem dX3_addPost_33 : decode cX3_addPost 33 = .ok (.iconst 1, 1) := by decide +kernel
theorem dX3_addPost_34 : decode cX3_addPost 34 = .ok (.invokevirtual 84, 3) := by decide +kernel
theorem dX3_addPost_37 : decode cX3_addPost 37 = .ok (.iconst 0, 1) := by decide +kernel
theorem dX3_addPost_38 : decode cX3_addPost 38 = .ok (.istore 4, 2) := by decide +kernel
theorem dX3_addPost_40 : decode cX3_addPost 40 = .ok (.iload 4, 2) := by decide +kernel
theorem dX3_addPost_42 : decode cX3_addPost 42 = .ok (.aload_n 3, 1) := by decide +kernel
theorem dX3_addPost_43 : decode cX3_addPost 43 = .ok (.getfield 92, 3) := by decide +kernel
theorem dX3_addPost_46 : decode cX3_addPost 46 = .ok (.if_icmp .ge 41, 3) := by decide +kernel
theorem dX3_addPost_49 : decode cX3_addPost 49 = .ok (.aload_n 0, 1) := by decide +kernel
theorem dX3_addPost_50 : decode cX3_addPost 50 = .ok (.getfield 50, 3) := by decide +kernel
theorem dX3_addPost_53 : decode cX3_addPost 53 = .ok (.aload_n 3, 1) := by decide +kernel
theorem dX3_addPost_54 : decode cX3_addPost 54 = .ok (.getfield 99, 3) := by decide +kernel
theorem dX3_addPost_57 : decode cX3_addPost 57 = .ok (.iload 4, 2) := by decide +kernel
theorem dX3_addPost_59 : decode cX3_addPost 59 = .ok (.iaload, 1) := by decide +kernel
theorem dX3_addPost_60 : decode cX3_addPost 60 = .ok (.i2l, 1) := by decide +kernel
theorem dX3_addPost_61 : decode cX3_addPost 61 = .ok (.iconst 1, 1) := by decide +kernel
theorem dX3_addPost_62 : decode cX3_addPost 62 = .ok (.invokevirtual 84, 3) := by decide +kernel
theorem dX3_addPost_65 : decode cX3_addPost 65 = .ok (.aload_n 0, 1) := by decide +kernel
theorem dX3_addPost_66 : decode cX3_addPost 66 = .ok (.getfield 50, 3) := by decide +kernel
theorem dX3_addPost_69 : decode cX3_addPost 69 = .ok (.aload_n 3, 1) := by decide +kernel
theorem dX3_addPost_70 : decode cX3_addPost 70 = .ok (.getfield 102, 3) := by decide +kernel
theorem dX3_addPost_73 : decode cX3_addPost 73 = .ok (.iload 4, 2) := by decide +kernel
theorem dX3_addPost_75 : decode cX3_addPost 75 = .ok (.laload, 1) := by decide +kernel
theorem dX3_addPost_76 : decode cX3_addPost 76 = .ok (.bipush 8, 2) := by decide +kernel
theorem dX3_addPost_78 : decode cX3_addPost 78 = .ok (.invokevirtual 84, 3) := by decide +kernel
theorem dX3_addPost_81 : decode cX3_addPost 81 = .ok (.iinc 4 1, 3) := by decide +kernel
theorem dX3_addPost_84 : decode cX3_addPost 84 = .ok (.goto (-44), 3) := by decide +kernel
theorem dX3_addPost_87 : decode cX3_addPost 87 = .ok (.aload_n 0, 1) := by decide +kernel
theorem dX3_addPost_88 : decode cX3_addPost 88 = .ok (.lload_n 1, 1) := by decide +kernel
theorem dX3_addPost_89 : decode cX3_addPost 89 = .ok (.invokevirtual 105, 3) := by decide +kernel
theorem dX3_addPost_92 : decode cX3_addPost 92 = .ok (.istore 4, 2) := by decide +kernel
theorem dX3_addPost_94 : decode cX3_addPost 94 = .ok (.iload 4, 2) := by decide +kernel
theorem dX3_addPost_96 : decode cX3_addPost 96 = .ok (.iconst (-1), 1) := by decide +kernel
theorem dX3_addPost_97 : decode cX3_addPost 97 = .ok (.if_icmp .eq 6, 3) := by decide +kernel
theorem dX3_addPost_100 : decode cX3_addPost 100 = .ok (.iload 4, 2) := by decide +kernel
theorem dX3_addPost_102 : decode cX3_addPost 102 = .ok (.ireturn, 1) := by decide +kernel
theorem dX3_addPost_103 : decode cX3_addPost 103 = .ok (.aload_n 0, 1) := by decide +kernel
theorem dX3_addPost_104 : decode cX3_addPost 104 = .ok (.aload_n 3, 1) := by decide +kernel
theorem dX3_addPost_105 : decode cX3_addPost 105 = .ok (.invokevirtual 108, 3) := by decide +kernel
theorem dX3_addPost_108 : decode cX3_addPost 108 = .ok (.ifCond .ne 6, 3) := by decide +kernel
theorem dX3_addPost_111 : decode cX3_addPost 111 = .ok (.bipush (-2), 2) := by decide +kernel
theorem dX3_addPost_113 : decode cX3_addPost 113 = .ok (.ireturn, 1) := by decide +kernel
theorem dX3_addPost_114 : decode cX3_addPost 114 = .ok (.aload_n 3, 1) := by decide +kernel
theorem dX3_addPost_115 : decode cX3_addPost 115 = .ok (.invokevirtual 112, 3) := by decide +kernel
theorem dX3_addPost_118 : decode cX3_addPost 118 = .ok (.ifCond .ne 6, 3) := by decide +kernel
theorem dX3_addPost_121 : decode cX3_addPost 121 = .ok (.bipush (-3), 2) := by decide +kernel
theorem dX3_addPost_123 : decode cX3_addPost 123 = .ok (.ireturn, 1) := by decide +kernel
theorem dX3_addPost_124 : decode cX3_addPost 124 = .ok (.aload_n 0, 1) := by decide +kernel
theorem dX3_addPost_125 : decode cX3_addPost 125 = .ok (.aload_n 3, 1) := by decide +kernel
theorem dX3_addPost_126 : decode cX3_addPost 126 = .ok (.iconst (-1), 1) := by decide +kernel
theorem dX3_addPost_127 : decode cX3_addPost 127 = .ok (.lconst 0, 1) := by decide +kernel
theorem dX3_addPost_128 : decode cX3_addPost 128 = .ok (.invokevirtual 116, 3) := by decide +kernel
theorem dX3_addPost_131 : decode cX3_addPost 131 = .ok (.istore 5, 2) := by decide +kernel
theorem dX3_addPost_133 : decode cX3_addPost 133 = .ok (.iload 5, 2) := by decide +kernel
theorem dX3_addPost_135 : decode cX3_addPost 135 = .ok (.ifCond .ne 12, 3) := by decide +kernel
theorem dX3_addPost_138 : decode cX3_addPost 138 = .ok (.aload_n 0, 1) := by decide +kernel
theorem dX3_addPost_139 : decode cX3_addPost 139 = .ok (.lload_n 1, 1) := by decide +kernel
theorem dX3_addPost_140 : decode cX3_addPost 140 = .ok (.aload_n 3, 1) := by decide +kernel
theorem dX3_addPost_141 : decode cX3_addPost 141 = .ok (.invokevirtual 120, 3) := by decide +kernel
theorem dX3_addPost_144 : decode cX3_addPost 144 = .ok (.goto 5, 3) := by decide +kernel
theorem dX3_addPost_147 : decode cX3_addPost 147 = .ok (.iload 5, 2) := by decide +kernel
theorem dX3_addPost_149 : decode cX3_addPost 149 = .ok (.ireturn, 1) := by decide +kernel
theorem dX3_addHold_0 : decode cX3_addHold 0 = .ok (.lload_n 1, 1) := by decide +kernel
theorem dX3_addHold_1 : decode cX3_addHold 1 = .ok (.lconst 0, 1) := by decide +kernel
theorem dX3_addHold_2 : decode cX3_addHold 2 = .ok (.lcmp, 1) := by decide +kernel
theorem dX3_addHold_3 : decode cX3_addHold 3 = .ok (.ifCond .eq 17, 3) := by decide +kernel
theorem dX3_addHold_6 : decode cX3_addHold 6 = .ok (.iload_n 3, 1) := by decide +kernel
theorem dX3_addHold_7 : decode cX3_addHold 7 = .ok (.invokestatic 124, 3) := by decide +kernel
theorem dX3_addHold_10 : decode cX3_addHold 10 = .ok (.ifCond .eq 10, 3) := by decide +kernel
theorem dX3_addHold_13 : decode cX3_addHold 13 = .ok (.lload 4, 2) := by decide +kernel
theorem dX3_addHold_15 : decode cX3_addHold 15 = .ok (.lconst 0, 1) := by decide +kernel
theorem dX3_addHold_16 : decode cX3_addHold 16 = .ok (.lcmp, 1) := by decide +kernel
theorem dX3_addHold_17 : decode cX3_addHold 17 = .ok (.ifCond .gt 5, 3) := by decide +kernel
theorem dX3_addHold_20 : decode cX3_addHold 20 = .ok (.iconst (-1), 1) := by decide +kernel
theorem dX3_addHold_21 : decode cX3_addHold 21 = .ok (.ireturn, 1) := by decide +kernel
theorem dX3_addHold_22 : decode cX3_addHold 22 = .ok (.aload_n 0, 1) := by decide +kernel
theorem dX3_addHold_23 : decode cX3_addHold 23 = .ok (.getfield 50, 3) := by decide +kernel
theorem dX3_addHold_26 : decode cX3_addHold 26 = .ok (.iconst 3, 1) := by decide +kernel
theorem dX3_addHold_27 : decode cX3_addHold 27 = .ok (.lload_n 1, 1) := by decide +kernel
theorem dX3_addHold_28 : decode cX3_addHold 28 = .ok (.invokevirtual 95, 3) := by decide +kernel
theorem dX3_addHold_31 : decode cX3_addHold 31 = .ok (.aload_n 0, 1) := by decide +kernel
theorem dX3_addHold_32 : decode cX3_addHold 32 = .ok (.getfield 50, 3) := by decide +kernel
theorem dX3_addHold_35 : decode cX3_addHold 35 = .ok (.iload_n 3, 1) := by decide +kernel
theorem dX3_addHold_36 : decode cX3_addHold 36 = .ok (.i2l, 1) := by decide +kernel
theorem dX3_addHold_37 : decode cX3_addHold 37 = .ok (.iconst 1, 1) := by decide +kernel
theorem dX3_addHold_38 : decode cX3_addHold 38 = .ok (.invokevirtual 84, 3) := by decide +kernel
theorem dX3_addHold_41 : decode cX3_addHold 41 = .ok (.aload_n 0, 1) := by decide +kernel
theorem dX3_addHold_42 : decode cX3_addHold 42 = .ok (.getfield 50, 3) := by decide +kernel
theorem dX3_addHold_45 : decode cX3_addHold 45 = .ok (.lload 4, 2) := by decide +kernel
theorem dX3_addHold_47 : decode cX3_addHold 47 = .ok (.bipush 8, 2) := by decide +kernel
theorem dX3_addHold_49 : decode cX3_addHold 49 = .ok (.invokevirtual 84, 3) := by decide +kernel
theorem dX3_addHold_52 : decode cX3_addHold 52 = .ok (.aload_n 0, 1) := by decide +kernel
theorem dX3_addHold_53 : decode cX3_addHold 53 = .ok (.lload_n 1, 1) := by decide +kernel
theorem dX3_addHold_54 : decode cX3_addHold 54 = .ok (.invokevirtual 105, 3) := by decide +kernel
theorem dX3_addHold_57 : decode cX3_addHold 57 = .ok (.istore 6, 2) := by decide +kernel
theorem dX3_addHold_59 : decode cX3_addHold 59 = .ok (.iload 6, 2) := by decide +kernel
theorem dX3_addHold_61 : decode cX3_addHold 61 = .ok (.iconst (-1), 1) := by decide +kernel
theorem dX3_addHold_62 : decode cX3_addHold 62 = .ok (.if_icmp .eq 6, 3) := by decide +kernel
theorem dX3_addHold_65 : decode cX3_addHold 65 = .ok (.iload 6, 2) := by decide +kernel
theorem dX3_addHold_67 : decode cX3_addHold 67 = .ok (.ireturn, 1) := by decide +kernel
theorem dX3_addHold_68 : decode cX3_addHold 68 = .ok (.iload_n 3, 1) := by decide +kernel
theorem dX3_addHold_69 : decode cX3_addHold 69 = .ok (.aload_n 0, 1) := by decide +kernel
theorem dX3_addHold_70 : decode cX3_addHold 70 = .ok (.getfield 61, 3) := by decide +kernel
theorem dX3_addHold_73 : decode cX3_addHold 73 = .ok (.if_icmp .lt 6, 3) := by decide +kernel
theorem dX3_addHold_76 : decode cX3_addHold 76 = .ok (.bipush (-2), 2) := by decide +kernel
theorem dX3_addHold_78 : decode cX3_addHold 78 = .ok (.ireturn, 1) := by decide +kernel
theorem dX3_addHold_79 : decode cX3_addHold 79 = .ok (.aload_n 0, 1) := by decide +kernel
theorem dX3_addHold_80 : decode cX3_addHold 80 = .ok (.getfield 15, 3) := by decide +kernel
theorem dX3_addHold_83 : decode cX3_addHold 83 = .ok (.iload_n 3, 1) := by decide +kernel
theorem dX3_addHold_84 : decode cX3_addHold 84 = .ok (.laload, 1) := by decide +kernel
theorem dX3_addHold_85 : decode cX3_addHold 85 = .ok (.aload_n 0, 1) := by decide +kernel
theorem dX3_addHold_86 : decode cX3_addHold 86 = .ok (.getfield 9, 3) := by decide +kernel
theorem dX3_addHold_89 : decode cX3_addHold 89 = .ok (.iload_n 3, 1) := by decide +kernel
theorem dX3_addHold_90 : decode cX3_addHold 90 = .ok (.laload, 1) := by decide +kernel
theorem dX3_addHold_91 : decode cX3_addHold 91 = .ok (.lsub, 1) := by decide +kernel
theorem dX3_addHold_92 : decode cX3_addHold 92 = .ok (.aload_n 0, 1) := by decide +kernel
theorem dX3_addHold_93 : decode cX3_addHold 93 = .ok (.getfield 18, 3) := by decide +kernel
theorem dX3_addHold_96 : decode cX3_addHold 96 = .ok (.iload_n 3, 1) := by decide +kernel
theorem dX3_addHold_97 : decode cX3_addHold 97 = .ok (.laload, 1) := by decide +kernel
theorem dX3_addHold_98 : decode cX3_addHold 98 = .ok (.lsub, 1) := by decide +kernel
theorem dX3_addHold_99 : decode cX3_addHold 99 = .ok (.lload 4, 2) := by decide +kernel
theorem dX3_addHold_101 : decode cX3_addHold 101 = .ok (.invokestatic 128, 3) := by decide +kernel
theorem dX3_addHold_104 : decode cX3_addHold 104 = .ok (.ifCond .eq 6, 3) := by decide +kernel
theorem dX3_addHold_107 : decode cX3_addHold 107 = .ok (.bipush (-6), 2) := by decide +kernel
theorem dX3_addHold_109 : decode cX3_addHold 109 = .ok (.ireturn, 1) := by decide +kernel
theorem dX3_addHold_110 : decode cX3_addHold 110 = .ok (.aload_n 0, 1) := by decide +kernel
theorem dX3_addHold_111 : decode cX3_addHold 111 = .ok (.getfield 65, 3) := by decide +kernel
theorem dX3_addHold_114 : decode cX3_addHold 114 = .ok (.sipush 200, 3) := by decide +kernel
theorem dX3_addHold_117 : decode cX3_addHold 117 = .ok (.if_icmp .lt 6, 3) := by decide +kernel
theorem dX3_addHold_120 : decode cX3_addHold 120 = .ok (.bipush (-8), 2) := by decide +kernel
theorem dX3_addHold_122 : decode cX3_addHold 122 = .ok (.ireturn, 1) := by decide +kernel
theorem dX3_addHold_123 : decode cX3_addHold 123 = .ok (.aload_n 0, 1) := by decide +kernel
theorem dX3_addHold_124 : decode cX3_addHold 124 = .ok (.getfield 18, 3) := by decide +kernel
theorem dX3_addHold_127 : decode cX3_addHold 127 = .ok (.iload_n 3, 1) := by decide +kernel
theorem dX3_addHold_128 : decode cX3_addHold 128 = .ok (.dup2, 1) := by decide +kernel
theorem dX3_addHold_129 : decode cX3_addHold 129 = .ok (.laload, 1) := by decide +kernel
theorem dX3_addHold_130 : decode cX3_addHold 130 = .ok (.lload 4, 2) := by decide +kernel
theorem dX3_addHold_132 : decode cX3_addHold 132 = .ok (.ladd, 1) := by decide +kernel
theorem dX3_addHold_133 : decode cX3_addHold 133 = .ok (.lastore, 1) := by decide +kernel
theorem dX3_addHold_134 : decode cX3_addHold 134 = .ok (.aload_n 0, 1) := by decide +kernel
theorem dX3_addHold_135 : decode cX3_addHold 135 = .ok (.dup, 1) := by decide +kernel
theorem dX3_addHold_136 : decode cX3_addHold 136 = .ok (.getfield 68, 3) := by decide +kernel
theorem dX3_addHold_139 : decode cX3_addHold 139 = .ok (.iconst 1, 1) := by decide +kernel
theorem dX3_addHold_140 : decode cX3_addHold 140 = .ok (.iadd, 1) := by decide +kernel
theorem dX3_addHold_141 : decode cX3_addHold 141 = .ok (.putfield 68, 3) := by decide +kernel
theorem dX3_addHold_144 : decode cX3_addHold 144 = .ok (.aload_n 0, 1) := by decide +kernel
theorem dX3_addHold_145 : decode cX3_addHold 145 = .ok (.lload_n 1, 1) := by decide +kernel
theorem dX3_addHold_146 : decode cX3_addHold 146 = .ok (.invokevirtual 88, 3) := by decide +kernel
theorem dX3_addHold_149 : decode cX3_addHold 149 = .ok (.ireturn, 1) := by decide +kernel
theorem dX3_addRelease_0 : decode cX3_addRelease 0 = .ok (.iload_n 1, 1) := by decide +kernel
theorem dX3_addRelease_1 : decode cX3_addRelease 1 = .ok (.invokestatic 132, 3) := by decide +kernel
theorem dX3_addRelease_4 : decode cX3_addRelease 4 = .ok (.ifCond .ne 5, 3) := by decide +kernel
theorem dX3_addRelease_7 : decode cX3_addRelease 7 = .ok (.iconst (-1), 1) := by decide +kernel
theorem dX3_addRelease_8 : decode cX3_addRelease 8 = .ok (.ireturn, 1) := by decide +kernel
theorem dX3_addRelease_9 : decode cX3_addRelease 9 = .ok (.aload_n 0, 1) := by decide +kernel
theorem dX3_addRelease_10 : decode cX3_addRelease 10 = .ok (.iload_n 1, 1) := by decide +kernel
theorem dX3_addRelease_11 : decode cX3_addRelease 11 = .ok (.invokevirtual 135, 3) := by decide +kernel
theorem dX3_addRelease_14 : decode cX3_addRelease 14 = .ok (.ifCond .ne 6, 3) := by decide +kernel
theorem dX3_addRelease_17 : decode cX3_addRelease 17 = .ok (.bipush (-2), 2) := by decide +kernel
theorem dX3_addRelease_19 : decode cX3_addRelease 19 = .ok (.ireturn, 1) := by decide +kernel
theorem dX3_addRelease_20 : decode cX3_addRelease 20 = .ok (.aload_n 0, 1) := by decide +kernel
theorem dX3_addRelease_21 : decode cX3_addRelease 21 = .ok (.getfield 65, 3) := by decide +kernel
theorem dX3_addRelease_24 : decode cX3_addRelease 24 = .ok (.sipush 200, 3) := by decide +kernel
theorem dX3_addRelease_27 : decode cX3_addRelease 27 = .ok (.if_icmp .lt 6, 3) := by decide +kernel
theorem dX3_addRelease_30 : decode cX3_addRelease 30 = .ok (.bipush (-8), 2) := by decide +kernel
theorem dX3_addRelease_32 : decode cX3_addRelease 32 = .ok (.ireturn, 1) := by decide +kernel
theorem dX3_addRelease_33 : decode cX3_addRelease 33 = .ok (.aload_n 0, 1) := by decide +kernel
theorem dX3_addRelease_34 : decode cX3_addRelease 34 = .ok (.getfield 50, 3) := by decide +kernel
theorem dX3_addRelease_37 : decode cX3_addRelease 37 = .ok (.iconst 4, 1) := by decide +kernel
theorem dX3_addRelease_38 : decode cX3_addRelease 38 = .ok (.invokevirtual 81, 3) := by decide +kernel
theorem dX3_addRelease_41 : decode cX3_addRelease 41 = .ok (.aload_n 0, 1) := by decide +kernel
theorem dX3_addRelease_42 : decode cX3_addRelease 42 = .ok (.getfield 50, 3) := by decide +kernel
theorem dX3_addRelease_45 : decode cX3_addRelease 45 = .ok (.iload_n 1, 1) := by decide +kernel
theorem dX3_addRelease_46 : decode cX3_addRelease 46 = .ok (.i2l, 1) := by decide +kernel
theorem dX3_addRelease_47 : decode cX3_addRelease 47 = .ok (.iconst 2, 1) := by decide +kernel
theorem dX3_addRelease_48 : decode cX3_addRelease 48 = .ok (.invokevirtual 84, 3) := by decide +kernel
theorem dX3_addRelease_51 : decode cX3_addRelease 51 = .ok (.aload_n 0, 1) := by decide +kernel
theorem dX3_addRelease_52 : decode cX3_addRelease 52 = .ok (.iload_n 1, 1) := by decide +kernel
theorem dX3_addRelease_53 : decode cX3_addRelease 53 = .ok (.aload_n 0, 1) := by decide +kernel
theorem dX3_addRelease_54 : decode cX3_addRelease 54 = .ok (.getfield 65, 3) := by decide +kernel
theorem dX3_addRelease_57 : decode cX3_addRelease 57 = .ok (.invokevirtual 138, 3) := by decide +kernel
theorem dX3_addRelease_60 : decode cX3_addRelease 60 = .ok (.aload_n 0, 1) := by decide +kernel
theorem dX3_addRelease_61 : decode cX3_addRelease 61 = .ok (.lconst 0, 1) := by decide +kernel
theorem dX3_addRelease_62 : decode cX3_addRelease 62 = .ok (.invokevirtual 88, 3) := by decide +kernel
theorem dX3_addRelease_65 : decode cX3_addRelease 65 = .ok (.ireturn, 1) := by decide +kernel
theorem dX3_addCapture_0 : decode cX3_addCapture 0 = .ok (.lload_n 1, 1) := by decide +kernel
theorem dX3_addCapture_1 : decode cX3_addCapture 1 = .ok (.lconst 0, 1) := by decide +kernel
theorem dX3_addCapture_2 : decode cX3_addCapture 2 = .ok (.lcmp, 1) := by decide +kernel
theorem dX3_addCapture_3 : decode cX3_addCapture 3 = .ok (.ifCond .eq 25, 3) := by decide +kernel
theorem dX3_addCapture_6 : decode cX3_addCapture 6 = .ok (.iload_n 3, 1) := by decide +kernel
theorem dX3_addCapture_7 : decode cX3_addCapture 7 = .ok (.invokestatic 132, 3) := by decide +kernel
theorem dX3_addCapture_10 : decode cX3_addCapture 10 = .ok (.ifCond .eq 18, 3) := by decide +kernel
theorem dX3_addCapture_13 : decode cX3_addCapture 13 = .ok (.iload 4, 2) := by decide +kernel
theorem dX3_addCapture_15 : decode cX3_addCapture 15 = .ok (.invokestatic 124, 3) := by decide +kernel
theorem dX3_addCapture_18 : decode cX3_addCapture 18 = .ok (.ifCond .eq 10, 3) := by decide +kernel
theorem dX3_addCapture_21 : decode cX3_addCapture 21 = .ok (.lload 5, 2) := by decide +kernel
theorem dX3_addCapture_23 : decode cX3_addCapture 23 = .ok (.lconst 0, 1) := by decide +kernel
theorem dX3_addCapture_24 : decode cX3_addCapture 24 = .ok (.lcmp, 1) := by decide +kernel
theorem dX3_addCapture_25 : decode cX3_addCapture 25 = .ok (.ifCond .gt 5, 3) := by decide +kernel
theorem dX3_addCapture_28 : decode cX3_addCapture 28 = .ok (.iconst (-1), 1) := by decide +kernel
theorem dX3_addCapture_29 : decode cX3_addCapture 29 = .ok (.ireturn, 1) := by decide +kernel
theorem dX3_addCapture_30 : decode cX3_addCapture 30 = .ok (.aload_n 0, 1) := by decide +kernel
theorem dX3_addCapture_31 : decode cX3_addCapture 31 = .ok (.getfield 50, 3) := by decide +kernel
theorem dX3_addCapture_34 : decode cX3_addCapture 34 = .ok (.iconst 5, 1) := by decide +kernel
theorem dX3_addCapture_35 : decode cX3_addCapture 35 = .ok (.lload_n 1, 1) := by decide +kernel
theorem dX3_addCapture_36 : decode cX3_addCapture 36 = .ok (.invokevirtual 95, 3) := by decide +kernel
theorem dX3_addCapture_39 : decode cX3_addCapture 39 = .ok (.aload_n 0, 1) := by decide +kernel
theorem dX3_addCapture_40 : decode cX3_addCapture 40 = .ok (.getfield 50, 3) := by decide +kernel
theorem dX3_addCapture_43 : decode cX3_addCapture 43 = .ok (.iload_n 3, 1) := by decide +kernel
theorem dX3_addCapture_44 : decode cX3_addCapture 44 = .ok (.i2l, 1) := by decide +kernel
theorem dX3_addCapture_45 : decode cX3_addCapture 45 = .ok (.iconst 2, 1) := by decide +kernel
theorem dX3_addCapture_46 : decode cX3_addCapture 46 = .ok (.invokevirtual 84, 3) := by decide +kernel
theorem dX3_addCapture_49 : decode cX3_addCapture 49 = .ok (.aload_n 0, 1) := by decide +kernel
theorem dX3_addCapture_50 : decode cX3_addCapture 50 = .ok (.getfield 50, 3) := by decide +kernel
theorem dX3_addCapture_53 : decode cX3_addCapture 53 = .ok (.iload 4, 2) := by decide +kernel
theorem dX3_addCapture_55 : decode cX3_addCapture 55 = .ok (.i2l, 1) := by decide +kernel
theorem dX3_addCapture_56 : decode cX3_addCapture 56 = .ok (.iconst 1, 1) := by decide +kernel
theorem dX3_addCapture_57 : decode cX3_addCapture 57 = .ok (.invokevirtual 84, 3) := by decide +kernel
theorem dX3_addCapture_60 : decode cX3_addCapture 60 = .ok (.aload_n 0, 1) := by decide +kernel
theorem dX3_addCapture_61 : decode cX3_addCapture 61 = .ok (.getfield 50, 3) := by decide +kernel
theorem dX3_addCapture_64 : decode cX3_addCapture 64 = .ok (.lload 5, 2) := by decide +kernel
theorem dX3_addCapture_66 : decode cX3_addCapture 66 = .ok (.bipush 8, 2) := by decide +kernel
theorem dX3_addCapture_68 : decode cX3_addCapture 68 = .ok (.invokevirtual 84, 3) := by decide +kernel
theorem dX3_addCapture_71 : decode cX3_addCapture 71 = .ok (.aload_n 0, 1) := by decide +kernel
theorem dX3_addCapture_72 : decode cX3_addCapture 72 = .ok (.lload_n 1, 1) := by decide +kernel
theorem dX3_addCapture_73 : decode cX3_addCapture 73 = .ok (.invokevirtual 105, 3) := by decide +kernel
theorem dX3_addCapture_76 : decode cX3_addCapture 76 = .ok (.istore 7, 2) := by decide +kernel
theorem dX3_addCapture_78 : decode cX3_addCapture 78 = .ok (.iload 7, 2) := by decide +kernel
theorem dX3_addCapture_80 : decode cX3_addCapture 80 = .ok (.iconst (-1), 1) := by decide +kernel
theorem dX3_addCapture_81 : decode cX3_addCapture 81 = .ok (.if_icmp .eq 6, 3) := by decide +kernel
theorem dX3_addCapture_84 : decode cX3_addCapture 84 = .ok (.iload 7, 2) := by decide +kernel
theorem dX3_addCapture_86 : decode cX3_addCapture 86 = .ok (.ireturn, 1) := by decide +kernel
theorem dX3_addCapture_87 : decode cX3_addCapture 87 = .ok (.aload_n 0, 1) := by decide +kernel
theorem dX3_addCapture_88 : decode cX3_addCapture 88 = .ok (.iload_n 3, 1) := by decide +kernel
theorem dX3_addCapture_89 : decode cX3_addCapture 89 = .ok (.invokevirtual 135, 3) := by decide +kernel
theorem dX3_addCapture_92 : decode cX3_addCapture 92 = .ok (.ifCond .eq 23, 3) := by decide +kernel
theorem dX3_addCapture_95 : decode cX3_addCapture 95 = .ok (.iload 4, 2) := by decide +kernel
theorem dX3_addCapture_97 : decode cX3_addCapture 97 = .ok (.aload_n 0, 1) := by decide +kernel
theorem dX3_addCapture_98 : decode cX3_addCapture 98 = .ok (.getfield 61, 3) := by decide +kernel
theorem dX3_addCapture_101 : decode cX3_addCapture 101 = .ok (.if_icmp .ge 14, 3) := by decide +kernel
theorem dX3_addCapture_104 : decode cX3_addCapture 104 = .ok (.lload 5, 2) := by decide +kernel
theorem dX3_addCapture_106 : decode cX3_addCapture 106 = .ok (.aload_n 0, 1) := by decide +kernel
theorem dX3_addCapture_107 : decode cX3_addCapture 107 = .ok (.iload_n 3, 1) := by decide +kernel
theorem dX3_addCapture_108 : decode cX3_addCapture 108 = .ok (.invokevirtual 142, 3) := by decide +kernel
theorem dX3_addCapture_111 : decode cX3_addCapture 111 = .ok (.lcmp, 1) := by decide +kernel
theorem dX3_addCapture_112 : decode cX3_addCapture 112 = .ok (.ifCond .le 6, 3) := by decide +kernel
theorem dX3_addCapture_115 : decode cX3_addCapture 115 = .ok (.bipush (-2), 2) := by decide +kernel
theorem dX3_addCapture_117 : decode cX3_addCapture 117 = .ok (.ireturn, 1) := by decide +kernel
theorem dX3_addCapture_118 : decode cX3_addCapture 118 = .ok (.aload_n 0, 1) := by decide +kernel
theorem dX3_addCapture_119 : decode cX3_addCapture 119 = .ok (.getfield 57, 3) := by decide +kernel
theorem dX3_addCapture_122 : decode cX3_addCapture 122 = .ok (.iconst 0, 1) := by decide +kernel
theorem dX3_addCapture_123 : decode cX3_addCapture 123 = .ok (.putfield 92, 3) := by decide +kernel
theorem dX3_addCapture_126 : decode cX3_addCapture 126 = .ok (.aload_n 0, 1) := by decide +kernel
theorem dX3_addCapture_127 : decode cX3_addCapture 127 = .ok (.getfield 57, 3) := by decide +kernel
theorem dX3_addCapture_130 : decode cX3_addCapture 130 = .ok (.aload_n 0, 1) := by decide +kernel
theorem dX3_addCapture_131 : decode cX3_addCapture 131 = .ok (.iload_n 3, 1) := by decide +kernel
theorem dX3_addCapture_132 : decode cX3_addCapture 132 = .ok (.invokevirtual 146, 3) := by decide +kernel
theorem dX3_addCapture_135 : decode cX3_addCapture 135 = .ok (.lload 5, 2) := by decide +kernel
theorem dX3_addCapture_137 : decode cX3_addCapture 137 = .ok (.lneg, 1) := by decide +kernel
theorem dX3_addCapture_138 : decode cX3_addCapture 138 = .ok (.invokevirtual 150, 3) := by decide +kernel
theorem dX3_addCapture_141 : decode cX3_addCapture 141 = .ok (.pop, 1) := by decide +kernel
theorem dX3_addCapture_142 : decode cX3_addCapture 142 = .ok (.aload_n 0, 1) := by decide +kernel
theorem dX3_addCapture_143 : decode cX3_addCapture 143 = .ok (.getfield 57, 3) := by decide +kernel
theorem dX3_addCapture_146 : decode cX3_addCapture 146 = .ok (.iload 4, 2) := by decide +kernel
theorem dX3_addCapture_148 : decode cX3_addCapture 148 = .ok (.lload 5, 2) := by decide +kernel
theorem dX3_addCapture_150 : decode cX3_addCapture 150 = .ok (.invokevirtual 150, 3) := by decide +kernel
theorem dX3_addCapture_153 : decode cX3_addCapture 153 = .ok (.pop, 1) := by decide +kernel
theorem dX3_addCapture_154 : decode cX3_addCapture 154 = .ok (.aload_n 0, 1) := by decide +kernel
theorem dX3_addCapture_155 : decode cX3_addCapture 155 = .ok (.aload_n 0, 1) := by decide +kernel
theorem dX3_addCapture_156 : decode cX3_addCapture 156 = .ok (.getfield 57, 3) := by decide +kernel
theorem dX3_addCapture_159 : decode cX3_addCapture 159 = .ok (.aload_n 0, 1) := by decide +kernel
theorem dX3_addCapture_160 : decode cX3_addCapture 160 = .ok (.iload_n 3, 1) := by decide +kernel
theorem dX3_addCapture_161 : decode cX3_addCapture 161 = .ok (.invokevirtual 146, 3) := by decide +kernel
theorem dX3_addCapture_164 : decode cX3_addCapture 164 = .ok (.aload_n 0, 1) := by decide +kernel
theorem dX3_addCapture_165 : decode cX3_addCapture 165 = .ok (.iload_n 3, 1) := by decide +kernel
theorem dX3_addCapture_166 : decode cX3_addCapture 166 = .ok (.invokevirtual 142, 3) := by decide +kernel
theorem dX3_addCapture_169 : decode cX3_addCapture 169 = .ok (.invokevirtual 116, 3) := by decide +kernel
theorem dX3_addCapture_172 : decode cX3_addCapture 172 = .ok (.istore 8, 2) := by decide +kernel
theorem dX3_addCapture_174 : decode cX3_addCapture 174 = .ok (.iload 8, 2) := by decide +kernel
theorem dX3_addCapture_176 : decode cX3_addCapture 176 = .ok (.ifCond .eq 6, 3) := by decide +kernel
theorem dX3_addCapture_179 : decode cX3_addCapture 179 = .ok (.iload 8, 2) := by decide +kernel
theorem dX3_addCapture_181 : decode cX3_addCapture 181 = .ok (.ireturn, 1) := by decide +kernel
theorem dX3_addCapture_182 : decode cX3_addCapture 182 = .ok (.aload_n 0, 1) := by decide +kernel
theorem dX3_addCapture_183 : decode cX3_addCapture 183 = .ok (.iload_n 3, 1) := by decide +kernel
theorem dX3_addCapture_184 : decode cX3_addCapture 184 = .ok (.aload_n 0, 1) := by decide +kernel
theorem dX3_addCapture_185 : decode cX3_addCapture 185 = .ok (.getfield 65, 3) := by decide +kernel
theorem dX3_addCapture_188 : decode cX3_addCapture 188 = .ok (.invokevirtual 138, 3) := by decide +kernel
theorem dX3_addCapture_191 : decode cX3_addCapture 191 = .ok (.aload_n 0, 1) := by decide +kernel
theorem dX3_addCapture_192 : decode cX3_addCapture 192 = .ok (.lload_n 1, 1) := by decide +kernel
theorem dX3_addCapture_193 : decode cX3_addCapture 193 = .ok (.aload_n 0, 1) := by decide +kernel
theorem dX3_addCapture_194 : decode cX3_addCapture 194 = .ok (.getfield 57, 3) := by decide +kernel
theorem dX3_addCapture_197 : decode cX3_addCapture 197 = .ok (.invokevirtual 120, 3) := by decide +kernel
theorem dX3_addCapture_200 : decode cX3_addCapture 200 = .ok (.ireturn, 1) := by decide +kernel
theorem dX3_addReversal_0 : decode cX3_addReversal 0 = .ok (.lload_n 1, 1) := by decide +kernel
theorem dX3_addReversal_1 : decode cX3_addReversal 1 = .ok (.lconst 0, 1) := by decide +kernel
theorem dX3_addReversal_2 : decode cX3_addReversal 2 = .ok (.lcmp, 1) := by decide +kernel
theorem dX3_addReversal_3 : decode cX3_addReversal 3 = .ok (.ifCond .eq 10, 3) := by decide +kernel
theorem dX3_addReversal_6 : decode cX3_addReversal 6 = .ok (.iload_n 3, 1) := by decide +kernel
theorem dX3_addReversal_7 : decode cX3_addReversal 7 = .ok (.invokestatic 132, 3) := by decide +kernel
theorem dX3_addReversal_10 : decode cX3_addReversal 10 = .ok (.ifCond .ne 5, 3) := by decide +kernel
theorem dX3_addReversal_13 : decode cX3_addReversal 13 = .ok (.iconst (-1), 1) := by decide +kernel
theorem dX3_addReversal_14 : decode cX3_addReversal 14 = .ok (.ireturn, 1) := by decide +kernel
theorem dX3_addReversal_15 : decode cX3_addReversal 15 = .ok (.aload_n 0, 1) := by decide +kernel
theorem dX3_addReversal_16 : decode cX3_addReversal 16 = .ok (.getfield 50, 3) := by decide +kernel
theorem dX3_addReversal_19 : decode cX3_addReversal 19 = .ok (.bipush 6, 2) := by decide +kernel
theorem dX3_addReversal_21 : decode cX3_addReversal 21 = .ok (.lload_n 1, 1) := by decide +kernel
theorem dX3_addReversal_22 : decode cX3_addReversal 22 = .ok (.invokevirtual 95, 3) := by decide +kernel
theorem dX3_addReversal_25 : decode cX3_addReversal 25 = .ok (.aload_n 0, 1) := by decide +kernel
theorem dX3_addReversal_26 : decode cX3_addReversal 26 = .ok (.getfield 50, 3) := by decide +kernel
theorem dX3_addReversal_29 : decode cX3_addReversal 29 = .ok (.iload_n 3, 1) := by decide +kernel
theorem dX3_addReversal_30 : decode cX3_addReversal 30 = .ok (.i2l, 1) := by decide +kernel
theorem dX3_addReversal_31 : decode cX3_addReversal 31 = .ok (.iconst 2, 1) := by decide +kernel
theorem dX3_addReversal_32 : decode cX3_addReversal 32 = .ok (.invokevirtual 84, 3) := by decide +kernel
theorem dX3_addReversal_35 : decode cX3_addReversal 35 = .ok (.aload_n 0, 1) := by decide +kernel
theorem dX3_addReversal_36 : decode cX3_addReversal 36 = .ok (.lload_n 1, 1) := by decide +kernel
theorem dX3_addReversal_37 : decode cX3_addReversal 37 = .ok (.invokevirtual 105, 3) := by decide +kernel
theorem dX3_addReversal_40 : decode cX3_addReversal 40 = .ok (.istore 4, 2) := by decide +kernel
theorem dX3_addReversal_42 : decode cX3_addReversal 42 = .ok (.iload 4, 2) := by decide +kernel
theorem dX3_addReversal_44 : decode cX3_addReversal 44 = .ok (.iconst (-1), 1) := by decide +kernel
theorem dX3_addReversal_45 : decode cX3_addReversal 45 = .ok (.if_icmp .eq 6, 3) := by decide +kernel
theorem dX3_addReversal_48 : decode cX3_addReversal 48 = .ok (.iload 4, 2) := by decide +kernel
theorem dX3_addReversal_50 : decode cX3_addReversal 50 = .ok (.ireturn, 1) := by decide +kernel
theorem dX3_addReversal_51 : decode cX3_addReversal 51 = .ok (.iload_n 3, 1) := by decide +kernel
theorem dX3_addReversal_52 : decode cX3_addReversal 52 = .ok (.aload_n 0, 1) := by decide +kernel
theorem dX3_addReversal_53 : decode cX3_addReversal 53 = .ok (.getfield 65, 3) := by decide +kernel
theorem dX3_addReversal_56 : decode cX3_addReversal 56 = .ok (.if_icmp .ge 12, 3) := by decide +kernel
theorem dX3_addReversal_59 : decode cX3_addReversal 59 = .ok (.aload_n 0, 1) := by decide +kernel
theorem dX3_addReversal_60 : decode cX3_addReversal 60 = .ok (.getfield 38, 3) := by decide +kernel
theorem dX3_addReversal_63 : decode cX3_addReversal 63 = .ok (.iload_n 3, 1) := by decide +kernel
theorem dX3_addReversal_64 : decode cX3_addReversal 64 = .ok (.iaload, 1) := by decide +kernel
theorem dX3_addReversal_65 : decode cX3_addReversal 65 = .ok (.ifCond .ne 6, 3) := by decide +kernel
theorem dX3_addReversal_68 : decode cX3_addReversal 68 = .ok (.bipush (-2), 2) := by decide +kernel
theorem dX3_addReversal_70 : decode cX3_addReversal 70 = .ok (.ireturn, 1) := by decide +kernel
theorem dX3_addReversal_71 : decode cX3_addReversal 71 = .ok (.aload_n 0, 1) := by decide +kernel
theorem dX3_addReversal_72 : decode cX3_addReversal 72 = .ok (.getfield 35, 3) := by decide +kernel
theorem dX3_addReversal_75 : decode cX3_addReversal 75 = .ok (.iload_n 3, 1) := by decide +kernel
theorem dX3_addReversal_76 : decode cX3_addReversal 76 = .ok (.iaload, 1) := by decide +kernel
theorem dX3_addReversal_77 : decode cX3_addReversal 77 = .ok (.iconst (-1), 1) := by decide +kernel
theorem dX3_addReversal_78 : decode cX3_addReversal 78 = .ok (.if_icmp .eq 6, 3) := by decide +kernel
theorem dX3_addReversal_81 : decode cX3_addReversal 81 = .ok (.bipush (-7), 2) := by decide +kernel
theorem dX3_addReversal_83 : decode cX3_addReversal 83 = .ok (.ireturn, 1) := by decide +kernel
theorem dX3_addReversal_84 : decode cX3_addReversal 84 = .ok (.aload_n 0, 1) := by decide +kernel
theorem dX3_addReversal_85 : decode cX3_addReversal 85 = .ok (.getfield 57, 3) := by decide +kernel
theorem dX3_addReversal_88 : decode cX3_addReversal 88 = .ok (.iconst 0, 1) := by decide +kernel
theorem dX3_addReversal_89 : decode cX3_addReversal 89 = .ok (.putfield 92, 3) := by decide +kernel
theorem dX3_addReversal_92 : decode cX3_addReversal 92 = .ok (.iconst 0, 1) := by decide +kernel
theorem dX3_addReversal_93 : decode cX3_addReversal 93 = .ok (.istore 5, 2) := by decide +kernel
theorem dX3_addReversal_95 : decode cX3_addReversal 95 = .ok (.iload 5, 2) := by decide +kernel
theorem dX3_addReversal_97 : decode cX3_addReversal 97 = .ok (.aload_n 0, 1) := by decide +kernel
theorem dX3_addReversal_98 : decode cX3_addReversal 98 = .ok (.getfield 38, 3) := by decide +kernel
theorem dX3_addReversal_101 : decode cX3_addReversal 101 = .ok (.iload_n 3, 1) := by decide +kernel
theorem dX3_addReversal_102 : decode cX3_addReversal 102 = .ok (.iaload, 1) := by decide +kernel
theorem dX3_addReversal_103 : decode cX3_addReversal 103 = .ok (.if_icmp .ge 42, 3) := by decide +kernel
theorem dX3_addReversal_106 : decode cX3_addReversal 106 = .ok (.aload_n 0, 1) := by decide +kernel
theorem dX3_addReversal_107 : decode cX3_addReversal 107 = .ok (.getfield 57, 3) := by decide +kernel
theorem dX3_addReversal_110 : decode cX3_addReversal 110 = .ok (.aload_n 0, 1) := by decide +kernel
theorem dX3_addReversal_111 : decode cX3_addReversal 111 = .ok (.getfield 41, 3) := by decide +kernel
theorem dX3_addReversal_114 : decode cX3_addReversal 114 = .ok (.iload_n 3, 1) := by decide +kernel
theorem dX3_addReversal_115 : decode cX3_addReversal 115 = .ok (.bipush 8, 2) := by decide +kernel
theorem dX3_addReversal_117 : decode cX3_addReversal 117 = .ok (.imul, 1) := by decide +kernel
theorem dX3_addReversal_118 : decode cX3_addReversal 118 = .ok (.iload 5, 2) := by decide +kernel
theorem dX3_addReversal_120 : decode cX3_addReversal 120 = .ok (.iadd, 1) := by decide +kernel
theorem dX3_addReversal_121 : decode cX3_addReversal 121 = .ok (.iaload, 1) := by decide +kernel
theorem dX3_addReversal_122 : decode cX3_addReversal 122 = .ok (.aload_n 0, 1) := by decide +kernel
theorem dX3_addReversal_123 : decode cX3_addReversal 123 = .ok (.getfield 44, 3) := by decide +kernel
theorem dX3_addReversal_126 : decode cX3_addReversal 126 = .ok (.iload_n 3, 1) := by decide +kernel
theorem dX3_addReversal_127 : decode cX3_addReversal 127 = .ok (.bipush 8, 2) := by decide +kernel
theorem dX3_addReversal_129 : decode cX3_addReversal 129 = .ok (.imul, 1) := by decide +kernel
theorem dX3_addReversal_130 : decode cX3_addReversal 130 = .ok (.iload 5, 2) := by decide +kernel
theorem dX3_addReversal_132 : decode cX3_addReversal 132 = .ok (.iadd, 1) := by decide +kernel
theorem dX3_addReversal_133 : decode cX3_addReversal 133 = .ok (.laload, 1) := by decide +kernel
theorem dX3_addReversal_134 : decode cX3_addReversal 134 = .ok (.lneg, 1) := by decide +kernel
theorem dX3_addReversal_135 : decode cX3_addReversal 135 = .ok (.invokevirtual 150, 3) := by decide +kernel
theorem dX3_addReversal_138 : decode cX3_addReversal 138 = .ok (.pop, 1) := by decide +kernel
theorem dX3_addReversal_139 : decode cX3_addReversal 139 = .ok (.iinc 5 1, 3) := by decide +kernel
theorem dX3_addReversal_142 : decode cX3_addReversal 142 = .ok (.goto (-47), 3) := by decide +kernel
theorem dX3_addReversal_145 : decode cX3_addReversal 145 = .ok (.aload_n 0, 1) := by decide +kernel
theorem dX3_addReversal_146 : decode cX3_addReversal 146 = .ok (.aload_n 0, 1) := by decide +kernel
theorem dX3_addReversal_147 : decode cX3_addReversal 147 = .ok (.getfield 57, 3) := by decide +kernel
theorem dX3_addReversal_150 : decode cX3_addReversal 150 = .ok (.iconst (-1), 1) := by decide +kernel
theorem dX3_addReversal_151 : decode cX3_addReversal 151 = .ok (.lconst 0, 1) := by decide +kernel
theorem dX3_addReversal_152 : decode cX3_addReversal 152 = .ok (.invokevirtual 116, 3) := by decide +kernel
theorem dX3_addReversal_155 : decode cX3_addReversal 155 = .ok (.istore 5, 2) := by decide +kernel
theorem dX3_addReversal_157 : decode cX3_addReversal 157 = .ok (.iload 5, 2) := by decide +kernel
theorem dX3_addReversal_159 : decode cX3_addReversal 159 = .ok (.ifCond .eq 6, 3) := by decide +kernel
theorem dX3_addReversal_162 : decode cX3_addReversal 162 = .ok (.iload 5, 2) := by decide +kernel
theorem dX3_addReversal_164 : decode cX3_addReversal 164 = .ok (.ireturn, 1) := by decide +kernel
theorem dX3_addReversal_165 : decode cX3_addReversal 165 = .ok (.aload_n 0, 1) := by decide +kernel
theorem dX3_addReversal_166 : decode cX3_addReversal 166 = .ok (.getfield 35, 3) := by decide +kernel
theorem dX3_addReversal_169 : decode cX3_addReversal 169 = .ok (.iload_n 3, 1) := by decide +kernel
theorem dX3_addReversal_170 : decode cX3_addReversal 170 = .ok (.aload_n 0, 1) := by decide +kernel
theorem dX3_addReversal_171 : decode cX3_addReversal 171 = .ok (.getfield 65, 3) := by decide +kernel
theorem dX3_addReversal_174 : decode cX3_addReversal 174 = .ok (.iastore, 1) := by decide +kernel
theorem dX3_addReversal_175 : decode cX3_addReversal 175 = .ok (.aload_n 0, 1) := by decide +kernel
theorem dX3_addReversal_176 : decode cX3_addReversal 176 = .ok (.lload_n 1, 1) := by decide +kernel
theorem dX3_addReversal_177 : decode cX3_addReversal 177 = .ok (.aload_n 0, 1) := by decide +kernel
theorem dX3_addReversal_178 : decode cX3_addReversal 178 = .ok (.getfield 57, 3) := by decide +kernel
theorem dX3_addReversal_181 : decode cX3_addReversal 181 = .ok (.invokevirtual 120, 3) := by decide +kernel
theorem dX3_addReversal_184 : decode cX3_addReversal 184 = .ok (.ireturn, 1) := by decide +kernel
theorem dX3_kindOf_0 : decode cX3_kindOf 0 = .ok (.aload_n 0, 1) := by decide +kernel
theorem dX3_kindOf_1 : decode cX3_kindOf 1 = .ok (.getfield 24, 3) := by decide +kernel
theorem dX3_kindOf_4 : decode cX3_kindOf 4 = .ok (.aload_n 0, 1) := by decide +kernel
theorem dX3_kindOf_5 : decode cX3_kindOf 5 = .ok (.getfield 28, 3) := by decide +kernel
theorem dX3_kindOf_8 : decode cX3_kindOf 8 = .ok (.iload_n 1, 1) := by decide +kernel
theorem dX3_kindOf_9 : decode cX3_kindOf 9 = .ok (.iaload, 1) := by decide +kernel
theorem dX3_kindOf_10 : decode cX3_kindOf 10 = .ok (.baload, 1) := by decide +kernel
theorem dX3_kindOf_11 : decode cX3_kindOf 11 = .ok (.ireturn, 1) := by decide +kernel
theorem dX3_answeredBefore_0 : decode cX3_answeredBefore 0 = .ok (.iconst 0, 1) := by decide +kernel
theorem dX3_answeredBefore_1 : decode cX3_answeredBefore 1 = .ok (.istore_n 3, 1) := by decide +kernel
theorem dX3_answeredBefore_2 : decode cX3_answeredBefore 2 = .ok (.iload_n 3, 1) := by decide +kernel
theorem dX3_answeredBefore_3 : decode cX3_answeredBefore 3 = .ok (.aload_n 0, 1) := by decide +kernel
theorem dX3_answeredBefore_4 : decode cX3_answeredBefore 4 = .ok (.getfield 65, 3) := by decide +kernel
theorem dX3_answeredBefore_7 : decode cX3_answeredBefore 7 = .ok (.if_icmp .ge 35, 3) := by decide +kernel
theorem dX3_answeredBefore_10 : decode cX3_answeredBefore 10 = .ok (.aload_n 0, 1) := by decide +kernel
theorem dX3_answeredBefore_11 : decode cX3_answeredBefore 11 = .ok (.getfield 32, 3) := by decide +kernel
theorem dX3_answeredBefore_14 : decode cX3_answeredBefore 14 = .ok (.iload_n 3, 1) := by decide +kernel
theorem dX3_answeredBefore_15 : decode cX3_answeredBefore 15 = .ok (.laload, 1) := by decide +kernel
theorem dX3_answeredBefore_16 : decode cX3_answeredBefore 16 = .ok (.lload_n 1, 1) := by decide +kernel
theorem dX3_answeredBefore_17 : decode cX3_answeredBefore 17 = .ok (.lcmp, 1) := by decide +kernel
theorem dX3_answeredBefore_18 : decode cX3_answeredBefore 18 = .ok (.ifCond .ne 18, 3) := by decide +kernel
theorem dX3_answeredBefore_21 : decode cX3_answeredBefore 21 = .ok (.aload_n 0, 1) := by decide +kernel
theorem dX3_answeredBefore_22 : decode cX3_answeredBefore 22 = .ok (.iload_n 3, 1) := by decide +kernel
theorem dX3_answeredBefore_23 : decode cX3_answeredBefore 23 = .ok (.invokevirtual 153, 3) := by decide +kernel
theorem dX3_answeredBefore_26 : decode cX3_answeredBefore 26 = .ok (.ifCond .eq 7, 3) := by decide +kernel
theorem dX3_answeredBefore_29 : decode cX3_answeredBefore 29 = .ok (.iload_n 3, 1) := by decide +kernel
theorem dX3_answeredBefore_30 : decode cX3_answeredBefore 30 = .ok (.goto 5, 3) := by decide +kernel
theorem dX3_answeredBefore_33 : decode cX3_answeredBefore 33 = .ok (.bipush (-4), 2) := by decide +kernel
theorem dX3_answeredBefore_35 : decode cX3_answeredBefore 35 = .ok (.ireturn, 1) := by decide +kernel
theorem dX3_answeredBefore_36 : decode cX3_answeredBefore 36 = .ok (.iinc 3 1, 3) := by decide +kernel
theorem dX3_answeredBefore_39 : decode cX3_answeredBefore 39 = .ok (.goto (-37), 3) := by decide +kernel
theorem dX3_answeredBefore_42 : decode cX3_answeredBefore 42 = .ok (.iconst (-1), 1) := by decide +kernel
theorem dX3_answeredBefore_43 : decode cX3_answeredBefore 43 = .ok (.ireturn, 1) := by decide +kernel
theorem dX3_isAsDrafted_0 : decode cX3_isAsDrafted 0 = .ok (.aload_n 0, 1) := by decide +kernel
theorem dX3_isAsDrafted_1 : decode cX3_isAsDrafted 1 = .ok (.getfield 28, 3) := by decide +kernel
theorem dX3_isAsDrafted_4 : decode cX3_isAsDrafted 4 = .ok (.iload_n 1, 1) := by decide +kernel
theorem dX3_isAsDrafted_5 : decode cX3_isAsDrafted 5 = .ok (.iconst 1, 1) := by decide +kernel
theorem dX3_isAsDrafted_6 : decode cX3_isAsDrafted 6 = .ok (.iadd, 1) := by decide +kernel
theorem dX3_isAsDrafted_7 : decode cX3_isAsDrafted 7 = .ok (.iaload, 1) := by decide +kernel
theorem dX3_isAsDrafted_8 : decode cX3_isAsDrafted 8 = .ok (.aload_n 0, 1) := by decide +kernel
theorem dX3_isAsDrafted_9 : decode cX3_isAsDrafted 9 = .ok (.getfield 28, 3) := by decide +kernel
theorem dX3_isAsDrafted_12 : decode cX3_isAsDrafted 12 = .ok (.iload_n 1, 1) := by decide +kernel
theorem dX3_isAsDrafted_13 : decode cX3_isAsDrafted 13 = .ok (.iaload, 1) := by decide +kernel
theorem dX3_isAsDrafted_14 : decode cX3_isAsDrafted 14 = .ok (.isub, 1) := by decide +kernel
theorem dX3_isAsDrafted_15 : decode cX3_isAsDrafted 15 = .ok (.aload_n 0, 1) := by decide +kernel
theorem dX3_isAsDrafted_16 : decode cX3_isAsDrafted 16 = .ok (.getfield 50, 3) := by decide +kernel
theorem dX3_isAsDrafted_19 : decode cX3_isAsDrafted 19 = .ok (.getfield 156, 3) := by decide +kernel
theorem dX3_isAsDrafted_22 : decode cX3_isAsDrafted 22 = .ok (.if_icmp .eq 5, 3) := by decide +kernel
theorem dX3_isAsDrafted_25 : decode cX3_isAsDrafted 25 = .ok (.iconst 0, 1) := by decide +kernel
theorem dX3_isAsDrafted_26 : decode cX3_isAsDrafted 26 = .ok (.ireturn, 1) := by decide +kernel
theorem dX3_isAsDrafted_27 : decode cX3_isAsDrafted 27 = .ok (.iconst 0, 1) := by decide +kernel
theorem dX3_isAsDrafted_28 : decode cX3_isAsDrafted 28 = .ok (.istore_n 2, 1) := by decide +kernel
theorem dX3_isAsDrafted_29 : decode cX3_isAsDrafted 29 = .ok (.iload_n 2, 1) := by decide +kernel
theorem dX3_isAsDrafted_30 : decode cX3_isAsDrafted 30 = .ok (.aload_n 0, 1) := by decide +kernel
theorem dX3_isAsDrafted_31 : decode cX3_isAsDrafted 31 = .ok (.getfield 50, 3) := by decide +kernel
theorem dX3_isAsDrafted_34 : decode cX3_isAsDrafted 34 = .ok (.getfield 156, 3) := by decide +kernel
theorem dX3_isAsDrafted_37 : decode cX3_isAsDrafted 37 = .ok (.if_icmp .ge 36, 3) := by decide +kernel
theorem dX3_isAsDrafted_40 : decode cX3_isAsDrafted 40 = .ok (.aload_n 0, 1) := by decide +kernel
theorem dX3_isAsDrafted_41 : decode cX3_isAsDrafted 41 = .ok (.getfield 24, 3) := by decide +kernel
theorem dX3_isAsDrafted_44 : decode cX3_isAsDrafted 44 = .ok (.aload_n 0, 1) := by decide +kernel
theorem dX3_isAsDrafted_45 : decode cX3_isAsDrafted 45 = .ok (.getfield 28, 3) := by decide +kernel
theorem dX3_isAsDrafted_48 : decode cX3_isAsDrafted 48 = .ok (.iload_n 1, 1) := by decide +kernel
theorem dX3_isAsDrafted_49 : decode cX3_isAsDrafted 49 = .ok (.iaload, 1) := by decide +kernel
theorem dX3_isAsDrafted_50 : decode cX3_isAsDrafted 50 = .ok (.iload_n 2, 1) := by decide +kernel
theorem dX3_isAsDrafted_51 : decode cX3_isAsDrafted 51 = .ok (.iadd, 1) := by decide +kernel
theorem dX3_isAsDrafted_52 : decode cX3_isAsDrafted 52 = .ok (.baload, 1) := by decide +kernel
theorem dX3_isAsDrafted_53 : decode cX3_isAsDrafted 53 = .ok (.aload_n 0, 1) := by decide +kernel
theorem dX3_isAsDrafted_54 : decode cX3_isAsDrafted 54 = .ok (.getfield 50, 3) := by decide +kernel
theorem dX3_isAsDrafted_57 : decode cX3_isAsDrafted 57 = .ok (.getfield 157, 3) := by decide +kernel
theorem dX3_isAsDrafted_60 : decode cX3_isAsDrafted 60 = .ok (.iload_n 2, 1) := by decide +kernel
theorem dX3_isAsDrafted_61 : decode cX3_isAsDrafted 61 = .ok (.baload, 1) := by decide +kernel
theorem dX3_isAsDrafted_62 : decode cX3_isAsDrafted 62 = .ok (.if_icmp .eq 5, 3) := by decide +kernel
theorem dX3_isAsDrafted_65 : decode cX3_isAsDrafted 65 = .ok (.iconst 0, 1) := by decide +kernel
theorem dX3_isAsDrafted_66 : decode cX3_isAsDrafted 66 = .ok (.ireturn, 1) := by decide +kernel
theorem dX3_isAsDrafted_67 : decode cX3_isAsDrafted 67 = .ok (.iinc 2 1, 3) := by decide +kernel
theorem dX3_isAsDrafted_70 : decode cX3_isAsDrafted 70 = .ok (.goto (-41), 3) := by decide +kernel
theorem dX3_isAsDrafted_73 : decode cX3_isAsDrafted 73 = .ok (.iconst 1, 1) := by decide +kernel
theorem dX3_isAsDrafted_74 : decode cX3_isAsDrafted 74 = .ok (.ireturn, 1) := by decide +kernel
theorem dX3_areThere_0 : decode cX3_areThere 0 = .ok (.iconst 0, 1) := by decide +kernel
theorem dX3_areThere_1 : decode cX3_areThere 1 = .ok (.istore_n 2, 1) := by decide +kernel
theorem dX3_areThere_2 : decode cX3_areThere 2 = .ok (.iload_n 2, 1) := by decide +kernel
theorem dX3_areThere_3 : decode cX3_areThere 3 = .ok (.aload_n 1, 1) := by decide +kernel
theorem dX3_areThere_4 : decode cX3_areThere 4 = .ok (.getfield 92, 3) := by decide +kernel
theorem dX3_areThere_7 : decode cX3_areThere 7 = .ok (.if_icmp .ge 24, 3) := by decide +kernel
theorem dX3_areThere_10 : decode cX3_areThere 10 = .ok (.aload_n 1, 1) := by decide +kernel
theorem dX3_areThere_11 : decode cX3_areThere 11 = .ok (.getfield 99, 3) := by decide +kernel
theorem dX3_areThere_14 : decode cX3_areThere 14 = .ok (.iload_n 2, 1) := by decide +kernel
theorem dX3_areThere_15 : decode cX3_areThere 15 = .ok (.iaload, 1) := by decide +kernel
theorem dX3_areThere_16 : decode cX3_areThere 16 = .ok (.aload_n 0, 1) := by decide +kernel
theorem dX3_areThere_17 : decode cX3_areThere 17 = .ok (.getfield 61, 3) := by decide +kernel
theorem dX3_areThere_20 : decode cX3_areThere 20 = .ok (.if_icmp .lt 5, 3) := by decide +kernel
theorem dX3_areThere_23 : decode cX3_areThere 23 = .ok (.iconst 0, 1) := by decide +kernel
theorem dX3_areThere_24 : decode cX3_areThere 24 = .ok (.ireturn, 1) := by decide +kernel
theorem dX3_areThere_25 : decode cX3_areThere 25 = .ok (.iinc 2 1, 3) := by decide +kernel
theorem dX3_areThere_28 : decode cX3_areThere 28 = .ok (.goto (-26), 3) := by decide +kernel
theorem dX3_areThere_31 : decode cX3_areThere 31 = .ok (.iconst 1, 1) := by decide +kernel
theorem dX3_areThere_32 : decode cX3_areThere 32 = .ok (.ireturn, 1) := by decide +kernel
theorem dX3_weigh_0 : decode cX3_weigh 0 = .ok (.aload_n 0, 1) := by decide +kernel
theorem dX3_weigh_1 : decode cX3_weigh 1 = .ok (.getfield 15, 3) := by decide +kernel
theorem dX3_weigh_4 : decode cX3_weigh 4 = .ok (.iconst 0, 1) := by decide +kernel
theorem dX3_weigh_5 : decode cX3_weigh 5 = .ok (.aload_n 0, 1) := by decide +kernel
theorem dX3_weigh_6 : decode cX3_weigh 6 = .ok (.getfield 21, 3) := by decide +kernel
theorem dX3_weigh_9 : decode cX3_weigh 9 = .ok (.iconst 0, 1) := by decide +kernel
theorem dX3_weigh_10 : decode cX3_weigh 10 = .ok (.aload_n 0, 1) := by decide +kernel
theorem dX3_weigh_11 : decode cX3_weigh 11 = .ok (.getfield 61, 3) := by decide +kernel
theorem dX3_weigh_14 : decode cX3_weigh 14 = .ok (.invokestatic 160, 3) := by decide +kernel
theorem dX3_weigh_17 : decode cX3_weigh 17 = .ok (.iconst 0, 1) := by decide +kernel
theorem dX3_weigh_18 : decode cX3_weigh 18 = .ok (.istore 5, 2) := by decide +kernel
theorem dX3_weigh_20 : decode cX3_weigh 20 = .ok (.iload 5, 2) := by decide +kernel
theorem dX3_weigh_22 : decode cX3_weigh 22 = .ok (.aload_n 1, 1) := by decide +kernel
theorem dX3_weigh_23 : decode cX3_weigh 23 = .ok (.getfield 92, 3) := by decide +kernel
theorem dX3_weigh_26 : decode cX3_weigh 26 = .ok (.if_icmp .ge 73, 3) := by decide +kernel
theorem dX3_weigh_29 : decode cX3_weigh 29 = .ok (.aload_n 0, 1) := by decide +kernel
theorem dX3_weigh_30 : decode cX3_weigh 30 = .ok (.getfield 21, 3) := by decide +kernel
theorem dX3_weigh_33 : decode cX3_weigh 33 = .ok (.aload_n 1, 1) := by decide +kernel
theorem dX3_weigh_34 : decode cX3_weigh 34 = .ok (.getfield 99, 3) := by decide +kernel
theorem dX3_weigh_37 : decode cX3_weigh 37 = .ok (.iload 5, 2) := by decide +kernel
theorem dX3_weigh_39 : decode cX3_weigh 39 = .ok (.iaload, 1) := by decide +kernel
theorem dX3_weigh_40 : decode cX3_weigh 40 = .ok (.laload, 1) := by decide +kernel
theorem dX3_weigh_41 : decode cX3_weigh 41 = .ok (.lstore 6, 2) := by decide +kernel
theorem dX3_weigh_43 : decode cX3_weigh 43 = .ok (.lload 6, 2) := by decide +kernel
theorem dX3_weigh_45 : decode cX3_weigh 45 = .ok (.aload_n 1, 1) := by decide +kernel
theorem dX3_weigh_46 : decode cX3_weigh 46 = .ok (.getfield 102, 3) := by decide +kernel
theorem dX3_weigh_49 : decode cX3_weigh 49 = .ok (.iload 5, 2) := by decide +kernel
theorem dX3_weigh_51 : decode cX3_weigh 51 = .ok (.laload, 1) := by decide +kernel
theorem dX3_weigh_52 : decode cX3_weigh 52 = .ok (.ladd, 1) := by decide +kernel
theorem dX3_weigh_53 : decode cX3_weigh 53 = .ok (.lstore 8, 2) := by decide +kernel
theorem dX3_weigh_55 : decode cX3_weigh 55 = .ok (.lload 6, 2) := by decide +kernel
theorem dX3_weigh_57 : decode cX3_weigh 57 = .ok (.lload 8, 2) := by decide +kernel
theorem dX3_weigh_59 : decode cX3_weigh 59 = .ok (.lxor, 1) := by decide +kernel
theorem dX3_weigh_60 : decode cX3_weigh 60 = .ok (.aload_n 1, 1) := by decide +kernel
theorem dX3_weigh_61 : decode cX3_weigh 61 = .ok (.getfield 102, 3) := by decide +kernel
theorem dX3_weigh_64 : decode cX3_weigh 64 = .ok (.iload 5, 2) := by decide +kernel
theorem dX3_weigh_66 : decode cX3_weigh 66 = .ok (.laload, 1) := by decide +kernel
theorem dX3_weigh_67 : decode cX3_weigh 67 = .ok (.lload 8, 2) := by decide +kernel
theorem dX3_weigh_69 : decode cX3_weigh 69 = .ok (.lxor, 1) := by decide +kernel
theorem dX3_weigh_70 : decode cX3_weigh 70 = .ok (.land, 1) := by decide +kernel
theorem dX3_weigh_71 : decode cX3_weigh 71 = .ok (.lconst 0, 1) := by decide +kernel
theorem dX3_weigh_72 : decode cX3_weigh 72 = .ok (.lcmp, 1) := by decide +kernel
theorem dX3_weigh_73 : decode cX3_weigh 73 = .ok (.ifCond .ge 6, 3) := by decide +kernel
theorem dX3_weigh_76 : decode cX3_weigh 76 = .ok (.bipush (-5), 2) := by decide +kernel
theorem dX3_weigh_78 : decode cX3_weigh 78 = .ok (.ireturn, 1) := by decide +kernel
theorem dX3_weigh_79 : decode cX3_weigh 79 = .ok (.aload_n 0, 1) := by decide +kernel
theorem dX3_weigh_80 : decode cX3_weigh 80 = .ok (.getfield 21, 3) := by decide +kernel
theorem dX3_weigh_83 : decode cX3_weigh 83 = .ok (.aload_n 1, 1) := by decide +kernel
theorem dX3_weigh_84 : decode cX3_weigh 84 = .ok (.getfield 99, 3) := by decide +kernel
theorem dX3_weigh_87 : decode cX3_weigh 87 = .ok (.iload 5, 2) := by decide +kernel
theorem dX3_weigh_89 : decode cX3_weigh 89 = .ok (.iaload, 1) := by decide +kernel
theorem dX3_weigh_90 : decode cX3_weigh 90 = .ok (.lload 8, 2) := by decide +kernel
theorem dX3_weigh_92 : decode cX3_weigh 92 = .ok (.lastore, 1) := by decide +kernel
theorem dX3_weigh_93 : decode cX3_weigh 93 = .ok (.iinc 5 1, 3) := by decide +kernel
theorem dX3_weigh_96 : decode cX3_weigh 96 = .ok (.goto (-76), 3) := by decide +kernel
theorem dX3_weigh_99 : decode cX3_weigh 99 = .ok (.iconst 0, 1) := by decide +kernel
theorem dX3_weigh_100 : decode cX3_weigh 100 = .ok (.istore 5, 2) := by decide +kernel
theorem dX3_weigh_102 : decode cX3_weigh 102 = .ok (.iload 5, 2) := by decide +kernel
theorem dX3_weigh_104 : decode cX3_weigh 104 = .ok (.aload_n 1, 1) := by decide +kernel
theorem dX3_weigh_105 : decode cX3_weigh 105 = .ok (.getfield 92, 3) := by decide +kernel
theorem dX3_weigh_108 : decode cX3_weigh 108 = .ok (.if_icmp .ge 89, 3) := by decide +kernel
theorem dX3_weigh_111 : decode cX3_weigh 111 = .ok (.aload_n 1, 1) := by decide +kernel
theorem dX3_weigh_112 : decode cX3_weigh 112 = .ok (.getfield 99, 3) := by decide +kernel
theorem dX3_weigh_115 : decode cX3_weigh 115 = .ok (.iload 5, 2) := by decide +kernel
theorem dX3_weigh_117 : decode cX3_weigh 117 = .ok (.iaload, 1) := by decide +kernel
theorem dX3_weigh_118 : decode cX3_weigh 118 = .ok (.istore 6, 2) := by decide +kernel
theorem dX3_weigh_120 : decode cX3_weigh 120 = .ok (.iload 6, 2) := by decide +kernel
theorem dX3_weigh_122 : decode cX3_weigh 122 = .ok (.iload_n 2, 1) := by decide +kernel
theorem dX3_weigh_123 : decode cX3_weigh 123 = .ok (.if_icmp .ne 15, 3) := by decide +kernel
theorem dX3_weigh_126 : decode cX3_weigh 126 = .ok (.aload_n 0, 1) := by decide +kernel
theorem dX3_weigh_127 : decode cX3_weigh 127 = .ok (.getfield 18, 3) := by decide +kernel
theorem dX3_weigh_130 : decode cX3_weigh 130 = .ok (.iload 6, 2) := by decide +kernel
theorem dX3_weigh_132 : decode cX3_weigh 132 = .ok (.laload, 1) := by decide +kernel
theorem dX3_weigh_133 : decode cX3_weigh 133 = .ok (.lload_n 3, 1) := by decide +kernel
theorem dX3_weigh_134 : decode cX3_weigh 134 = .ok (.lsub, 1) := by decide +kernel
theorem dX3_weigh_135 : decode cX3_weigh 135 = .ok (.goto 10, 3) := by decide +kernel
theorem dX3_weigh_138 : decode cX3_weigh 138 = .ok (.aload_n 0, 1) := by decide +kernel
theorem dX3_weigh_139 : decode cX3_weigh 139 = .ok (.getfield 18, 3) := by decide +kernel
theorem dX3_weigh_142 : decode cX3_weigh 142 = .ok (.iload 6, 2) := by decide +kernel
theorem dX3_weigh_144 : decode cX3_weigh 144 = .ok (.laload, 1) := by decide +kernel
theorem dX3_weigh_145 : decode cX3_weigh 145 = .ok (.lstore 7, 2) := by decide +kernel
theorem dX3_weigh_147 : decode cX3_weigh 147 = .ok (.aload_n 0, 1) := by decide +kernel
theorem dX3_weigh_148 : decode cX3_weigh 148 = .ok (.getfield 21, 3) := by decide +kernel
theorem dX3_weigh_151 : decode cX3_weigh 151 = .ok (.iload 6, 2) := by decide +kernel
theorem dX3_weigh_153 : decode cX3_weigh 153 = .ok (.laload, 1) := by decide +kernel
theorem dX3_weigh_154 : decode cX3_weigh 154 = .ok (.aload_n 0, 1) := by decide +kernel
theorem dX3_weigh_155 : decode cX3_weigh 155 = .ok (.getfield 9, 3) := by decide +kernel
theorem dX3_weigh_158 : decode cX3_weigh 158 = .ok (.iload 6, 2) := by decide +kernel
theorem dX3_weigh_160 : decode cX3_weigh 160 = .ok (.laload, 1) := by decide +kernel
theorem dX3_weigh_161 : decode cX3_weigh 161 = .ok (.lcmp, 1) := by decide +kernel
theorem dX3_weigh_162 : decode cX3_weigh 162 = .ok (.ifCond .lt 26, 3) := by decide +kernel
theorem dX3_weigh_165 : decode cX3_weigh 165 = .ok (.aload_n 0, 1) := by decide +kernel
theorem dX3_weigh_166 : decode cX3_weigh 166 = .ok (.getfield 21, 3) := by decide +kernel
theorem dX3_weigh_169 : decode cX3_weigh 169 = .ok (.iload 6, 2) := by decide +kernel
theorem dX3_weigh_171 : decode cX3_weigh 171 = .ok (.laload, 1) := by decide +kernel
theorem dX3_weigh_172 : decode cX3_weigh 172 = .ok (.aload_n 0, 1) := by decide +kernel
theorem dX3_weigh_173 : decode cX3_weigh 173 = .ok (.getfield 9, 3) := by decide +kernel
theorem dX3_weigh_176 : decode cX3_weigh 176 = .ok (.iload 6, 2) := by decide +kernel
theorem dX3_weigh_178 : decode cX3_weigh 178 = .ok (.laload, 1) := by decide +kernel
theorem dX3_weigh_179 : decode cX3_weigh 179 = .ok (.lsub, 1) := by decide +kernel
theorem dX3_weigh_180 : decode cX3_weigh 180 = .ok (.lload 7, 2) := by decide +kernel
theorem dX3_weigh_182 : decode cX3_weigh 182 = .ok (.invokestatic 128, 3) := by decide +kernel
theorem dX3_weigh_185 : decode cX3_weigh 185 = .ok (.ifCond .eq 6, 3) := by decide +kernel
theorem dX3_weigh_188 : decode cX3_weigh 188 = .ok (.bipush (-6), 2) := by decide +kernel
theorem dX3_weigh_190 : decode cX3_weigh 190 = .ok (.ireturn, 1) := by decide +kernel
theorem dX3_weigh_191 : decode cX3_weigh 191 = .ok (.iinc 5 1, 3) := by decide +kernel
theorem dX3_weigh_194 : decode cX3_weigh 194 = .ok (.goto (-92), 3) := by decide +kernel
theorem dX3_weigh_197 : decode cX3_weigh 197 = .ok (.aload_n 0, 1) := by decide +kernel
theorem dX3_weigh_198 : decode cX3_weigh 198 = .ok (.getfield 65, 3) := by decide +kernel
theorem dX3_weigh_201 : decode cX3_weigh 201 = .ok (.sipush 200, 3) := by decide +kernel
theorem dX3_weigh_204 : decode cX3_weigh 204 = .ok (.if_icmp .lt 8, 3) := by decide +kernel
theorem dX3_weigh_207 : decode cX3_weigh 207 = .ok (.bipush (-8), 2) := by decide +kernel
theorem dX3_weigh_209 : decode cX3_weigh 209 = .ok (.goto 4, 3) := by decide +kernel
theorem dX3_weigh_212 : decode cX3_weigh 212 = .ok (.iconst 0, 1) := by decide +kernel
theorem dX3_weigh_213 : decode cX3_weigh 213 = .ok (.ireturn, 1) := by decide +kernel
theorem dX3_move_0 : decode cX3_move 0 = .ok (.aload_n 0, 1) := by decide +kernel
theorem dX3_move_1 : decode cX3_move 1 = .ok (.getfield 21, 3) := by decide +kernel
theorem dX3_move_4 : decode cX3_move 4 = .ok (.iconst 0, 1) := by decide +kernel
theorem dX3_move_5 : decode cX3_move 5 = .ok (.aload_n 0, 1) := by decide +kernel
theorem dX3_move_6 : decode cX3_move 6 = .ok (.getfield 15, 3) := by decide +kernel
theorem dX3_move_9 : decode cX3_move 9 = .ok (.iconst 0, 1) := by decide +kernel
theorem dX3_move_10 : decode cX3_move 10 = .ok (.aload_n 0, 1) := by decide +kernel
theorem dX3_move_11 : decode cX3_move 11 = .ok (.getfield 61, 3) := by decide +kernel
theorem dX3_move_14 : decode cX3_move 14 = .ok (.invokestatic 160, 3) := by decide +kernel
theorem dX3_move_17 : decode cX3_move 17 = .ok (.aload_n 0, 1) := by decide +kernel
theorem dX3_move_18 : decode cX3_move 18 = .ok (.lload_n 1, 1) := by decide +kernel
theorem dX3_move_19 : decode cX3_move 19 = .ok (.invokevirtual 88, 3) := by decide +kernel
theorem dX3_move_22 : decode cX3_move 22 = .ok (.istore 4, 2) := by decide +kernel
theorem dX3_move_24 : decode cX3_move 24 = .ok (.aload_n 0, 1) := by decide +kernel
theorem dX3_move_25 : decode cX3_move 25 = .ok (.getfield 38, 3) := by decide +kernel
theorem dX3_move_28 : decode cX3_move 28 = .ok (.iload 4, 2) := by decide +kernel
theorem dX3_move_30 : decode cX3_move 30 = .ok (.aload_n 3, 1) := by decide +kernel
theorem dX3_move_31 : decode cX3_move 31 = .ok (.getfield 92, 3) := by decide +kernel
theorem dX3_move_34 : decode cX3_move 34 = .ok (.iastore, 1) := by decide +kernel
theorem dX3_move_35 : decode cX3_move 35 = .ok (.iconst 0, 1) := by decide +kernel
theorem dX3_move_36 : decode cX3_move 36 = .ok (.istore 5, 2) := by decide +kernel
theorem dX3_move_38 : decode cX3_move 38 = .ok (.iload 5, 2) := by decide +kernel
theorem dX3_move_40 : decode cX3_move 40 = .ok (.aload_n 3, 1) := by decide +kernel
theorem dX3_move_41 : decode cX3_move 41 = .ok (.getfield 92, 3) := by decide +kernel
theorem dX3_move_44 : decode cX3_move 44 = .ok (.if_icmp .ge 49, 3) := by decide +kernel
theorem dX3_move_47 : decode cX3_move 47 = .ok (.aload_n 0, 1) := by decide +kernel
theorem dX3_move_48 : decode cX3_move 48 = .ok (.getfield 41, 3) := by decide +kernel
theorem dX3_move_51 : decode cX3_move 51 = .ok (.iload 4, 2) := by decide +kernel
theorem dX3_move_53 : decode cX3_move 53 = .ok (.bipush 8, 2) := by decide +kernel
theorem dX3_move_55 : decode cX3_move 55 = .ok (.imul, 1) := by decide +kernel
theorem dX3_move_56 : decode cX3_move 56 = .ok (.iload 5, 2) := by decide +kernel
theorem dX3_move_58 : decode cX3_move 58 = .ok (.iadd, 1) := by decide +kernel
theorem dX3_move_59 : decode cX3_move 59 = .ok (.aload_n 3, 1) := by decide +kernel
theorem dX3_move_60 : decode cX3_move 60 = .ok (.getfield 99, 3) := by decide +kernel
theorem dX3_move_63 : decode cX3_move 63 = .ok (.iload 5, 2) := by decide +kernel
theorem dX3_move_65 : decode cX3_move 65 = .ok (.iaload, 1) := by decide +kernel
theorem dX3_move_66 : decode cX3_move 66 = .ok (.iastore, 1) := by decide +kernel
theorem dX3_move_67 : decode cX3_move 67 = .ok (.aload_n 0, 1) := by decide +kernel
theorem dX3_move_68 : decode cX3_move 68 = .ok (.getfield 44, 3) := by decide +kernel
theorem dX3_move_71 : decode cX3_move 71 = .ok (.iload 4, 2) := by decide +kernel
theorem dX3_move_73 : decode cX3_move 73 = .ok (.bipush 8, 2) := by decide +kernel
theorem dX3_move_75 : decode cX3_move 75 = .ok (.imul, 1) := by decide +kernel
theorem dX3_move_76 : decode cX3_move 76 = .ok (.iload 5, 2) := by decide +kernel
theorem dX3_move_78 : decode cX3_move 78 = .ok (.iadd, 1) := by decide +kernel
theorem dX3_move_79 : decode cX3_move 79 = .ok (.aload_n 3, 1) := by decide +kernel
theorem dX3_move_80 : decode cX3_move 80 = .ok (.getfield 102, 3) := by decide +kernel
theorem dX3_move_83 : decode cX3_move 83 = .ok (.iload 5, 2) := by decide +kernel
theorem dX3_move_85 : decode cX3_move 85 = .ok (.laload, 1) := by decide +kernel
theorem dX3_move_86 : decode cX3_move 86 = .ok (.lastore, 1) := by decide +kernel
theorem dX3_move_87 : decode cX3_move 87 = .ok (.iinc 5 1, 3) := by decide +kernel
theorem dX3_move_90 : decode cX3_move 90 = .ok (.goto (-52), 3) := by decide +kernel
theorem dX3_move_93 : decode cX3_move 93 = .ok (.aload_n 0, 1) := by decide +kernel
theorem dX3_move_94 : decode cX3_move 94 = .ok (.dup, 1) := by decide +kernel
theorem dX3_move_95 : decode cX3_move 95 = .ok (.getfield 78, 3) := by decide +kernel
theorem dX3_move_98 : decode cX3_move 98 = .ok (.iconst 1, 1) := by decide +kernel
theorem dX3_move_99 : decode cX3_move 99 = .ok (.iadd, 1) := by decide +kernel
theorem dX3_move_100 : decode cX3_move 100 = .ok (.putfield 78, 3) := by decide +kernel
theorem dX3_move_103 : decode cX3_move 103 = .ok (.aload_n 0, 1) := by decide +kernel
theorem dX3_move_104 : decode cX3_move 104 = .ok (.getfield 75, 3) := by decide +kernel
theorem dX3_move_107 : decode cX3_move 107 = .ok (.ifCond .le 28, 3) := by decide +kernel
theorem dX3_move_110 : decode cX3_move 110 = .ok (.aload_n 0, 1) := by decide +kernel
theorem dX3_move_111 : decode cX3_move 111 = .ok (.getfield 78, 3) := by decide +kernel
theorem dX3_move_114 : decode cX3_move 114 = .ok (.aload_n 0, 1) := by decide +kernel
theorem dX3_move_115 : decode cX3_move 115 = .ok (.getfield 75, 3) := by decide +kernel
theorem dX3_move_118 : decode cX3_move 118 = .ok (.if_icmp .lt 17, 3) := by decide +kernel
theorem dX3_move_121 : decode cX3_move 121 = .ok (.aload_n 0, 1) := by decide +kernel
theorem dX3_move_122 : decode cX3_move 122 = .ok (.getfield 65, 3) := by decide +kernel
theorem dX3_move_125 : decode cX3_move 125 = .ok (.sipush 200, 3) := by decide +kernel
theorem dX3_move_128 : decode cX3_move 128 = .ok (.if_icmp .ge 7, 3) := by decide +kernel
theorem dX3_move_131 : decode cX3_move 131 = .ok (.aload_n 0, 1) := by decide +kernel
theorem dX3_move_132 : decode cX3_move 132 = .ok (.invokevirtual 166, 3) := by decide +kernel
theorem dX3_move_135 : decode cX3_move 135 = .ok (.iload 4, 2) := by decide +kernel
theorem dX3_move_137 : decode cX3_move 137 = .ok (.ireturn, 1) := by decide +kernel
theorem dX3_addTrial_0 : decode cX3_addTrial 0 = .ok (.lconst 0, 1) := by decide +kernel
theorem dX3_addTrial_1 : decode cX3_addTrial 1 = .ok (.lstore_n 1, 1) := by decide +kernel
theorem dX3_addTrial_2 : decode cX3_addTrial 2 = .ok (.lconst 0, 1) := by decide +kernel
theorem dX3_addTrial_3 : decode cX3_addTrial 3 = .ok (.lstore_n 3, 1) := by decide +kernel
theorem dX3_addTrial_4 : decode cX3_addTrial 4 = .ok (.iconst 0, 1) := by decide +kernel
theorem dX3_addTrial_5 : decode cX3_addTrial 5 = .ok (.istore 5, 2) := by decide +kernel
theorem dX3_addTrial_7 : decode cX3_addTrial 7 = .ok (.iload 5, 2) := by decide +kernel
theorem dX3_addTrial_9 : decode cX3_addTrial 9 = .ok (.aload_n 0, 1) := by decide +kernel
theorem dX3_addTrial_10 : decode cX3_addTrial 10 = .ok (.getfield 61, 3) := by decide +kernel
theorem dX3_addTrial_13 : decode cX3_addTrial 13 = .ok (.if_icmp .ge 53, 3) := by decide +kernel
theorem dX3_addTrial_16 : decode cX3_addTrial 16 = .ok (.aload_n 0, 1) := by decide +kernel
theorem dX3_addTrial_17 : decode cX3_addTrial 17 = .ok (.getfield 15, 3) := by decide +kernel
theorem dX3_addTrial_20 : decode cX3_addTrial 20 = .ok (.iload 5, 2) := by decide +kernel
theorem dX3_addTrial_22 : decode cX3_addTrial 22 = .ok (.laload, 1) := by decide +kernel
theorem dX3_addTrial_23 : decode cX3_addTrial 23 = .ok (.lconst 0, 1) := by decide +kernel
theorem dX3_addTrial_24 : decode cX3_addTrial 24 = .ok (.lcmp, 1) := by decide +kernel
theorem dX3_addTrial_25 : decode cX3_addTrial 25 = .ok (.ifCond .le 35, 3) := by decide +kernel
theorem dX3_addTrial_28 : decode cX3_addTrial 28 = .ok (.lload_n 3, 1) := by decide +kernel
theorem dX3_addTrial_29 : decode cX3_addTrial 29 = .ok (.aload_n 0, 1) := by decide +kernel
theorem dX3_addTrial_30 : decode cX3_addTrial 30 = .ok (.getfield 15, 3) := by decide +kernel
theorem dX3_addTrial_33 : decode cX3_addTrial 33 = .ok (.iload 5, 2) := by decide +kernel
theorem dX3_addTrial_35 : decode cX3_addTrial 35 = .ok (.laload, 1) := by decide +kernel
theorem dX3_addTrial_36 : decode cX3_addTrial 36 = .ok (.ladd, 1) := by decide +kernel
theorem dX3_addTrial_37 : decode cX3_addTrial 37 = .ok (.lstore_n 3, 1) := by decide +kernel
theorem dX3_addTrial_38 : decode cX3_addTrial 38 = .ok (.lload_n 1, 1) := by decide +kernel
theorem dX3_addTrial_39 : decode cX3_addTrial 39 = .ok (.lload_n 3, 1) := by decide +kernel
theorem dX3_addTrial_40 : decode cX3_addTrial 40 = .ok (.aload_n 0, 1) := by decide +kernel
theorem dX3_addTrial_41 : decode cX3_addTrial 41 = .ok (.getfield 15, 3) := by decide +kernel
theorem dX3_addTrial_44 : decode cX3_addTrial 44 = .ok (.iload 5, 2) := by decide +kernel
theorem dX3_addTrial_46 : decode cX3_addTrial 46 = .ok (.laload, 1) := by decide +kernel
theorem dX3_addTrial_47 : decode cX3_addTrial 47 = .ok (.invokestatic 128, 3) := by decide +kernel
theorem dX3_addTrial_50 : decode cX3_addTrial 50 = .ok (.ifCond .eq 7, 3) := by decide +kernel
theorem dX3_addTrial_53 : decode cX3_addTrial 53 = .ok (.lconst 1, 1) := by decide +kernel
theorem dX3_addTrial_54 : decode cX3_addTrial 54 = .ok (.goto 4, 3) := by decide +kernel
theorem dX3_addTrial_57 : decode cX3_addTrial 57 = .ok (.lconst 0, 1) := by decide +kernel
theorem dX3_addTrial_58 : decode cX3_addTrial 58 = .ok (.ladd, 1) := by decide +kernel
theorem dX3_addTrial_59 : decode cX3_addTrial 59 = .ok (.lstore_n 1, 1) := by decide +kernel
theorem dX3_addTrial_60 : decode cX3_addTrial 60 = .ok (.iinc 5 1, 3) := by decide +kernel
theorem dX3_addTrial_63 : decode cX3_addTrial 63 = .ok (.goto (-56), 3) := by decide +kernel
theorem dX3_addTrial_66 : decode cX3_addTrial 66 = .ok (.aload_n 0, 1) := by decide +kernel
theorem dX3_addTrial_67 : decode cX3_addTrial 67 = .ok (.getfield 50, 3) := by decide +kernel
theorem dX3_addTrial_70 : decode cX3_addTrial 70 = .ok (.bipush 7, 2) := by decide +kernel
theorem dX3_addTrial_72 : decode cX3_addTrial 72 = .ok (.invokevirtual 81, 3) := by decide +kernel
theorem dX3_addTrial_75 : decode cX3_addTrial 75 = .ok (.aload_n 0, 1) := by decide +kernel
theorem dX3_addTrial_76 : decode cX3_addTrial 76 = .ok (.getfield 50, 3) := by decide +kernel
theorem dX3_addTrial_79 : decode cX3_addTrial 79 = .ok (.aload_n 0, 1) := by decide +kernel
theorem dX3_addTrial_80 : decode cX3_addTrial 80 = .ok (.getfield 61, 3) := by decide +kernel
theorem dX3_addTrial_83 : decode cX3_addTrial 83 = .ok (.i2l, 1) := by decide +kernel
theorem dX3_addTrial_84 : decode cX3_addTrial 84 = .ok (.iconst 1, 1) := by decide +kernel
theorem dX3_addTrial_85 : decode cX3_addTrial 85 = .ok (.invokevirtual 84, 3) := by decide +kernel
theorem dX3_addTrial_88 : decode cX3_addTrial 88 = .ok (.aload_n 0, 1) := by decide +kernel
theorem dX3_addTrial_89 : decode cX3_addTrial 89 = .ok (.getfield 50, 3) := by decide +kernel
theorem dX3_addTrial_92 : decode cX3_addTrial 92 = .ok (.lload_n 1, 1) := by decide +kernel
theorem dX3_addTrial_93 : decode cX3_addTrial 93 = .ok (.bipush 8, 2) := by decide +kernel
theorem dX3_addTrial_95 : decode cX3_addTrial 95 = .ok (.invokevirtual 84, 3) := by decide +kernel
theorem dX3_addTrial_98 : decode cX3_addTrial 98 = .ok (.aload_n 0, 1) := by decide +kernel
theorem dX3_addTrial_99 : decode cX3_addTrial 99 = .ok (.getfield 50, 3) := by decide +kernel
theorem dX3_addTrial_102 : decode cX3_addTrial 102 = .ok (.lload_n 3, 1) := by decide +kernel
theorem dX3_addTrial_103 : decode cX3_addTrial 103 = .ok (.bipush 8, 2) := by decide +kernel
theorem dX3_addTrial_105 : decode cX3_addTrial 105 = .ok (.invokevirtual 84, 3) := by decide +kernel
theorem dX3_addTrial_108 : decode cX3_addTrial 108 = .ok (.aload_n 0, 1) := by decide +kernel
theorem dX3_addTrial_109 : decode cX3_addTrial 109 = .ok (.lconst 0, 1) := by decide +kernel
theorem dX3_addTrial_110 : decode cX3_addTrial 110 = .ok (.invokevirtual 88, 3) := by decide +kernel
theorem dX3_addTrial_113 : decode cX3_addTrial 113 = .ok (.pop, 1) := by decide +kernel
theorem dX3_addTrial_114 : decode cX3_addTrial 114 = .ok (.aload_n 0, 1) := by decide +kernel
theorem dX3_addTrial_115 : decode cX3_addTrial 115 = .ok (.iconst 0, 1) := by decide +kernel
theorem dX3_addTrial_116 : decode cX3_addTrial 116 = .ok (.putfield 78, 3) := by decide +kernel
theorem dX3_addTrial_119 : decode cX3_addTrial 119 = .ok (.return_, 1) := by decide +kernel
theorem dX3_isHoldThere_0 : decode cX3_isHoldThere 0 = .ok (.iload_n 1, 1) := by decide +kernel
theorem dX3_isHoldThere_1 : decode cX3_isHoldThere 1 = .ok (.aload_n 0, 1) := by decide +kernel
theorem dX3_isHoldThere_2 : decode cX3_isHoldThere 2 = .ok (.getfield 65, 3) := by decide +kernel
theorem dX3_isHoldThere_5 : decode cX3_isHoldThere 5 = .ok (.if_icmp .ge 26, 3) := by decide +kernel
theorem dX3_isHoldThere_8 : decode cX3_isHoldThere 8 = .ok (.aload_n 0, 1) := by decide +kernel
theorem dX3_isHoldThere_9 : decode cX3_isHoldThere 9 = .ok (.iload_n 1, 1) := by decide +kernel
theorem dX3_isHoldThere_10 : decode cX3_isHoldThere 10 = .ok (.invokevirtual 169, 3) := by decide +kernel
theorem dX3_isHoldThere_13 : decode cX3_isHoldThere 13 = .ok (.iconst 3, 1) := by decide +kernel
theorem dX3_isHoldThere_14 : decode cX3_isHoldThere 14 = .ok (.if_icmp .ne 17, 3) := by decide +kernel
theorem dX3_isHoldThere_17 : decode cX3_isHoldThere 17 = .ok (.aload_n 0, 1) := by decide +kernel
theorem dX3_isHoldThere_18 : decode cX3_isHoldThere 18 = .ok (.getfield 35, 3) := by decide +kernel
theorem dX3_isHoldThere_21 : decode cX3_isHoldThere 21 = .ok (.iload_n 1, 1) := by decide +kernel
theorem dX3_isHoldThere_22 : decode cX3_isHoldThere 22 = .ok (.iaload, 1) := by decide +kernel
theorem dX3_isHoldThere_23 : decode cX3_isHoldThere 23 = .ok (.iconst (-1), 1) := by decide +kernel
theorem dX3_isHoldThere_24 : decode cX3_isHoldThere 24 = .ok (.if_icmp .ne 7, 3) := by decide +kernel
theorem dX3_isHoldThere_27 : decode cX3_isHoldThere 27 = .ok (.iconst 1, 1) := by decide +kernel
theorem dX3_isHoldThere_28 : decode cX3_isHoldThere 28 = .ok (.goto 4, 3) := by decide +kernel
theorem dX3_isHoldThere_31 : decode cX3_isHoldThere 31 = .ok (.iconst 0, 1) := by decide +kernel
theorem dX3_isHoldThere_32 : decode cX3_isHoldThere 32 = .ok (.ireturn, 1) := by decide +kernel
theorem dX3_accountHeld_0 : decode cX3_accountHeld 0 = .ok (.aload_n 0, 1) := by decide +kernel
theorem dX3_accountHeld_1 : decode cX3_accountHeld 1 = .ok (.getfield 24, 3) := by decide +kernel
theorem dX3_accountHeld_4 : decode cX3_accountHeld 4 = .ok (.aload_n 0, 1) := by decide +kernel
theorem dX3_accountHeld_5 : decode cX3_accountHeld 5 = .ok (.getfield 28, 3) := by decide +kernel
theorem dX3_accountHeld_8 : decode cX3_accountHeld 8 = .ok (.iload_n 1, 1) := by decide +kernel
theorem dX3_accountHeld_9 : decode cX3_accountHeld 9 = .ok (.iaload, 1) := by decide +kernel
theorem dX3_accountHeld_10 : decode cX3_accountHeld 10 = .ok (.bipush 9, 2) := by decide +kernel
theorem dX3_accountHeld_12 : decode cX3_accountHeld 12 = .ok (.iadd, 1) := by decide +kernel
theorem dX3_accountHeld_13 : decode cX3_accountHeld 13 = .ok (.baload, 1) := by decide +kernel
theorem dX3_accountHeld_14 : decode cX3_accountHeld 14 = .ok (.sipush 255, 3) := by decide +kernel
theorem dX3_accountHeld_17 : decode cX3_accountHeld 17 = .ok (.iand, 1) := by decide +kernel
theorem dX3_accountHeld_18 : decode cX3_accountHeld 18 = .ok (.ireturn, 1) := by decide +kernel
theorem dX3_amountHeld_0 : decode cX3_amountHeld 0 = .ok (.lconst 0, 1) := by decide +kernel
theorem dX3_amountHeld_1 : decode cX3_amountHeld 1 = .ok (.lstore_n 2, 1) := by decide +kernel
theorem dX3_amountHeld_2 : decode cX3_amountHeld 2 = .ok (.bipush 10, 2) := by decide +kernel
theorem dX3_amountHeld_4 : decode cX3_amountHeld 4 = .ok (.istore 4, 2) := by decide +kernel
theorem dX3_amountHeld_6 : decode cX3_amountHeld 6 = .ok (.iload 4, 2) := by decide +kernel
theorem dX3_amountHeld_8 : decode cX3_amountHeld 8 = .ok (.bipush 18, 2) := by decide +kernel
theorem dX3_amountHeld_10 : decode cX3_amountHeld 10 = .ok (.if_icmp .ge 34, 3) := by decide +kernel
theorem dX3_amountHeld_13 : decode cX3_amountHeld 13 = .ok (.lload_n 2, 1) := by decide +kernel
theorem dX3_amountHeld_14 : decode cX3_amountHeld 14 = .ok (.bipush 8, 2) := by decide +kernel
theorem dX3_amountHeld_16 : decode cX3_amountHeld 16 = .ok (.lshl, 1) := by decide +kernel
theorem dX3_amountHeld_17 : decode cX3_amountHeld 17 = .ok (.aload_n 0, 1) := by decide +kernel
theorem dX3_amountHeld_18 : decode cX3_amountHeld 18 = .ok (.getfield 24, 3) := by decide +kernel
theorem dX3_amountHeld_21 : decode cX3_amountHeld 21 = .ok (.aload_n 0, 1) := by decide +kernel
theorem dX3_amountHeld_22 : decode cX3_amountHeld 22 = .ok (.getfield 28, 3) := by decide +kernel
theorem dX3_amountHeld_25 : decode cX3_amountHeld 25 = .ok (.iload_n 1, 1) := by decide +kernel
theorem dX3_amountHeld_26 : decode cX3_amountHeld 26 = .ok (.iaload, 1) := by decide +kernel
theorem dX3_amountHeld_27 : decode cX3_amountHeld 27 = .ok (.iload 4, 2) := by decide +kernel
theorem dX3_amountHeld_29 : decode cX3_amountHeld 29 = .ok (.iadd, 1) := by decide +kernel
theorem dX3_amountHeld_30 : decode cX3_amountHeld 30 = .ok (.baload, 1) := by decide +kernel
theorem dX3_amountHeld_31 : decode cX3_amountHeld 31 = .ok (.sipush 255, 3) := by decide +kernel
theorem dX3_amountHeld_34 : decode cX3_amountHeld 34 = .ok (.iand, 1) := by decide +kernel
theorem dX3_amountHeld_35 : decode cX3_amountHeld 35 = .ok (.i2l, 1) := by decide +kernel
theorem dX3_amountHeld_36 : decode cX3_amountHeld 36 = .ok (.lor, 1) := by decide +kernel
theorem dX3_amountHeld_37 : decode cX3_amountHeld 37 = .ok (.lstore_n 2, 1) := by decide +kernel
theorem dX3_amountHeld_38 : decode cX3_amountHeld 38 = .ok (.iinc 4 1, 3) := by decide +kernel
theorem dX3_amountHeld_41 : decode cX3_amountHeld 41 = .ok (.goto (-35), 3) := by decide +kernel
theorem dX3_amountHeld_44 : decode cX3_amountHeld 44 = .ok (.lload_n 2, 1) := by decide +kernel
theorem dX3_amountHeld_45 : decode cX3_amountHeld 45 = .ok (.lreturn, 1) := by decide +kernel
theorem dX3_endHold_0 : decode cX3_endHold 0 = .ok (.aload_n 0, 1) := by decide +kernel
theorem dX3_endHold_1 : decode cX3_endHold 1 = .ok (.getfield 18, 3) := by decide +kernel
theorem dX3_endHold_4 : decode cX3_endHold 4 = .ok (.aload_n 0, 1) := by decide +kernel
theorem dX3_endHold_5 : decode cX3_endHold 5 = .ok (.iload_n 1, 1) := by decide +kernel
theorem dX3_endHold_6 : decode cX3_endHold 6 = .ok (.invokevirtual 146, 3) := by decide +kernel
theorem dX3_endHold_9 : decode cX3_endHold 9 = .ok (.dup2, 1) := by decide +kernel
theorem dX3_endHold_10 : decode cX3_endHold 10 = .ok (.laload, 1) := by decide +kernel
theorem dX3_endHold_11 : decode cX3_endHold 11 = .ok (.aload_n 0, 1) := by decide +kernel
theorem dX3_endHold_12 : decode cX3_endHold 12 = .ok (.iload_n 1, 1) := by decide +kernel
theorem dX3_endHold_13 : decode cX3_endHold 13 = .ok (.invokevirtual 142, 3) := by decide +kernel
theorem dX3_endHold_16 : decode cX3_endHold 16 = .ok (.lsub, 1) := by decide +kernel
theorem dX3_endHold_17 : decode cX3_endHold 17 = .ok (.lastore, 1) := by decide +kernel
theorem dX3_endHold_18 : decode cX3_endHold 18 = .ok (.aload_n 0, 1) := by decide +kernel
theorem dX3_endHold_19 : decode cX3_endHold 19 = .ok (.dup, 1) := by decide +kernel
theorem dX3_endHold_20 : decode cX3_endHold 20 = .ok (.getfield 68, 3) := by decide +kernel
theorem dX3_endHold_23 : decode cX3_endHold 23 = .ok (.iconst 1, 1) := by decide +kernel
theorem dX3_endHold_24 : decode cX3_endHold 24 = .ok (.isub, 1) := by decide +kernel
theorem dX3_endHold_25 : decode cX3_endHold 25 = .ok (.putfield 68, 3) := by decide +kernel
theorem dX3_endHold_28 : decode cX3_endHold 28 = .ok (.aload_n 0, 1) := by decide +kernel
theorem dX3_endHold_29 : decode cX3_endHold 29 = .ok (.getfield 35, 3) := by decide +kernel
theorem dX3_endHold_32 : decode cX3_endHold 32 = .ok (.iload_n 1, 1) := by decide +kernel
theorem dX3_endHold_33 : decode cX3_endHold 33 = .ok (.iload_n 2, 1) := by decide +kernel
theorem dX3_endHold_34 : decode cX3_endHold 34 = .ok (.iastore, 1) := by decide +kernel
theorem dX3_endHold_35 : decode cX3_endHold 35 = .ok (.return_, 1) := by decide +kernel
theorem dX3_append_0 : decode cX3_append 0 = .ok (.aload_n 0, 1) := by decide +kernel
theorem dX3_append_1 : decode cX3_append 1 = .ok (.getfield 65, 3) := by decide +kernel
theorem dX3_append_4 : decode cX3_append 4 = .ok (.istore_n 3, 1) := by decide +kernel
theorem dX3_append_5 : decode cX3_append 5 = .ok (.aload_n 0, 1) := by decide +kernel
theorem dX3_append_6 : decode cX3_append 6 = .ok (.getfield 50, 3) := by decide +kernel
theorem dX3_append_9 : decode cX3_append 9 = .ok (.getfield 157, 3) := by decide +kernel
theorem dX3_append_12 : decode cX3_append 12 = .ok (.iconst 0, 1) := by decide +kernel
theorem dX3_append_13 : decode cX3_append 13 = .ok (.aload_n 0, 1) := by decide +kernel
theorem dX3_append_14 : decode cX3_append 14 = .ok (.getfield 24, 3) := by decide +kernel
theorem dX3_append_17 : decode cX3_append 17 = .ok (.aload_n 0, 1) := by decide +kernel
theorem dX3_append_18 : decode cX3_append 18 = .ok (.getfield 28, 3) := by decide +kernel
theorem dX3_append_21 : decode cX3_append 21 = .ok (.iload_n 3, 1) := by decide +kernel
theorem dX3_append_22 : decode cX3_append 22 = .ok (.iaload, 1) := by decide +kernel
theorem dX3_append_23 : decode cX3_append 23 = .ok (.aload_n 0, 1) := by decide +kernel
theorem dX3_append_24 : decode cX3_append 24 = .ok (.getfield 50, 3) := by decide +kernel
theorem dX3_append_27 : decode cX3_append 27 = .ok (.getfield 156, 3) := by decide +kernel
theorem dX3_append_30 : decode cX3_append 30 = .ok (.invokestatic 160, 3) := by decide +kernel
theorem dX3_append_33 : decode cX3_append 33 = .ok (.aload_n 0, 1) := by decide +kernel
theorem dX3_append_34 : decode cX3_append 34 = .ok (.getfield 28, 3) := by decide +kernel
theorem dX3_append_37 : decode cX3_append 37 = .ok (.iload_n 3, 1) := by decide +kernel
theorem dX3_append_38 : decode cX3_append 38 = .ok (.iconst 1, 1) := by decide +kernel
theorem dX3_append_39 : decode cX3_append 39 = .ok (.iadd, 1) := by decide +kernel
theorem dX3_append_40 : decode cX3_append 40 = .ok (.aload_n 0, 1) := by decide +kernel
theorem dX3_append_41 : decode cX3_append 41 = .ok (.getfield 28, 3) := by decide +kernel
theorem dX3_append_44 : decode cX3_append 44 = .ok (.iload_n 3, 1) := by decide +kernel
theorem dX3_append_45 : decode cX3_append 45 = .ok (.iaload, 1) := by decide +kernel
theorem dX3_append_46 : decode cX3_append 46 = .ok (.aload_n 0, 1) := by decide +kernel
theorem dX3_append_47 : decode cX3_append 47 = .ok (.getfield 50, 3) := by decide +kernel
theorem dX3_append_50 : decode cX3_append 50 = .ok (.getfield 156, 3) := by decide +kernel
theorem dX3_append_53 : decode cX3_append 53 = .ok (.iadd, 1) := by decide +kernel
theorem dX3_append_54 : decode cX3_append 54 = .ok (.iastore, 1) := by decide +kernel
theorem dX3_append_55 : decode cX3_append 55 = .ok (.aload_n 0, 1) := by decide +kernel
theorem dX3_append_56 : decode cX3_append 56 = .ok (.getfield 32, 3) := by decide +kernel
theorem dX3_append_59 : decode cX3_append 59 = .ok (.iload_n 3, 1) := by decide +kernel
theorem dX3_append_60 : decode cX3_append 60 = .ok (.lload_n 1, 1) := by decide +kernel
theorem dX3_append_61 : decode cX3_append 61 = .ok (.lastore, 1) := by decide +kernel
theorem dX3_append_62 : decode cX3_append 62 = .ok (.aload_n 0, 1) := by decide +kernel
theorem dX3_append_63 : decode cX3_append 63 = .ok (.getfield 35, 3) := by decide +kernel
theorem dX3_append_66 : decode cX3_append 66 = .ok (.iload_n 3, 1) := by decide +kernel
theorem dX3_append_67 : decode cX3_append 67 = .ok (.iconst (-1), 1) := by decide +kernel
theorem dX3_append_68 : decode cX3_append 68 = .ok (.iastore, 1) := by decide +kernel
theorem dX3_append_69 : decode cX3_append 69 = .ok (.aload_n 0, 1) := by decide +kernel
theorem dX3_append_70 : decode cX3_append 70 = .ok (.getfield 38, 3) := by decide +kernel
theorem dX3_append_73 : decode cX3_append 73 = .ok (.iload_n 3, 1) := by decide +kernel
theorem dX3_append_74 : decode cX3_append 74 = .ok (.iconst 0, 1) := by decide +kernel
theorem dX3_append_75 : decode cX3_append 75 = .ok (.iastore, 1) := by decide +kernel
theorem dX3_append_76 : decode cX3_append 76 = .ok (.aload_n 0, 1) := by decide +kernel
theorem dX3_append_77 : decode cX3_append 77 = .ok (.dup, 1) := by decide +kernel
theorem dX3_append_78 : decode cX3_append 78 = .ok (.getfield 65, 3) := by decide +kernel
theorem dX3_append_81 : decode cX3_append 81 = .ok (.iconst 1, 1) := by decide +kernel
theorem dX3_append_82 : decode cX3_append 82 = .ok (.iadd, 1) := by decide +kernel
theorem dX3_append_83 : decode cX3_append 83 = .ok (.putfield 65, 3) := by decide +kernel
theorem dX3_append_86 : decode cX3_append 86 = .ok (.iload_n 3, 1) := by decide +kernel
theorem dX3_append_87 : decode cX3_append 87 = .ok (.ireturn, 1) := by decide +kernel
theorem dX4_init_0 : decode cX4_init 0 = .ok (.aload_n 0, 1) := by decide +kernel
theorem dX4_init_1 : decode cX4_init 1 = .ok (.invokespecial 3, 3) := by decide +kernel
theorem dX4_init_4 : decode cX4_init 4 = .ok (.aload_n 0, 1) := by decide +kernel
theorem dX4_init_5 : decode cX4_init 5 = .ok (.bipush 8, 2) := by decide +kernel
theorem dX4_init_7 : decode cX4_init 7 = .ok (.newarray .int, 2) := by decide +kernel
theorem dX4_init_9 : decode cX4_init 9 = .ok (.putfield 9, 3) := by decide +kernel
theorem dX4_init_12 : decode cX4_init 12 = .ok (.aload_n 0, 1) := by decide +kernel
theorem dX4_init_13 : decode cX4_init 13 = .ok (.bipush 8, 2) := by decide +kernel
theorem dX4_init_15 : decode cX4_init 15 = .ok (.newarray .long, 2) := by decide +kernel
theorem dX4_init_17 : decode cX4_init 17 = .ok (.putfield 15, 3) := by decide +kernel
theorem dX4_init_20 : decode cX4_init 20 = .ok (.return_, 1) := by decide +kernel
theorem dX4_add_0 : decode cX4_add 0 = .ok (.aload_n 0, 1) := by decide +kernel
theorem dX4_add_1 : decode cX4_add 1 = .ok (.getfield 19, 3) := by decide +kernel
theorem dX4_add_4 : decode cX4_add 4 = .ok (.bipush 8, 2) := by decide +kernel
theorem dX4_add_6 : decode cX4_add 6 = .ok (.if_icmp .ge 24, 3) := by decide +kernel
theorem dX4_add_9 : decode cX4_add 9 = .ok (.iload_n 1, 1) := by decide +kernel
theorem dX4_add_10 : decode cX4_add 10 = .ok (.invokestatic 23, 3) := by decide +kernel
theorem dX4_add_13 : decode cX4_add 13 = .ok (.ifCond .eq 17, 3) := by decide +kernel
theorem dX4_add_16 : decode cX4_add 16 = .ok (.lload_n 2, 1) := by decide +kernel
theorem dX4_add_17 : decode cX4_add 17 = .ok (.lconst 0, 1) := by decide +kernel
theorem dX4_add_18 : decode cX4_add 18 = .ok (.lcmp, 1) := by decide +kernel
theorem dX4_add_19 : decode cX4_add 19 = .ok (.ifCond .eq 11, 3) := by decide +kernel
theorem dX4_add_22 : decode cX4_add 22 = .ok (.lload_n 2, 1) := by decide +kernel
theorem dX4_add_23 : decode cX4_add 23 = .ok (.ldc2_w 27, 3) := by decide +kernel
theorem dX4_add_26 : decode cX4_add 26 = .ok (.lcmp, 1) := by decide +kernel
theorem dX4_add_27 : decode cX4_add 27 = .ok (.ifCond .ne 5, 3) := by decide +kernel
theorem dX4_add_30 : decode cX4_add 30 = .ok (.iconst 0, 1) := by decide +kernel
theorem dX4_add_31 : decode cX4_add 31 = .ok (.ireturn, 1) := by decide +kernel
theorem dX4_add_32 : decode cX4_add 32 = .ok (.aload_n 0, 1) := by decide +kernel
theorem dX4_add_33 : decode cX4_add 33 = .ok (.getfield 9, 3) := by decide +kernel
theorem dX4_add_36 : decode cX4_add 36 = .ok (.aload_n 0, 1) := by decide +kernel
theorem dX4_add_37 : decode cX4_add 37 = .ok (.getfield 19, 3) := by decide +kernel
theorem dX4_add_40 : decode cX4_add 40 = .ok (.iload_n 1, 1) := by decide +kernel
theorem dX4_add_41 : decode cX4_add 41 = .ok (.iastore, 1) := by decide +kernel
theorem dX4_add_42 : decode cX4_add 42 = .ok (.aload_n 0, 1) := by decide +kernel
theorem dX4_add_43 : decode cX4_add 43 = .ok (.getfield 15, 3) := by decide +kernel
theorem dX4_add_46 : decode cX4_add 46 = .ok (.aload_n 0, 1) := by decide +kernel
theorem dX4_add_47 : decode cX4_add 47 = .ok (.getfield 19, 3) := by decide +kernel
theorem dX4_add_50 : decode cX4_add 50 = .ok (.lload_n 2, 1) := by decide +kernel
theorem dX4_add_51 : decode cX4_add 51 = .ok (.lastore, 1) := by decide +kernel
theorem dX4_add_52 : decode cX4_add 52 = .ok (.aload_n 0, 1) := by decide +kernel
theorem dX4_add_53 : decode cX4_add 53 = .ok (.dup, 1) := by decide +kernel
theorem dX4_add_54 : decode cX4_add 54 = .ok (.getfield 19, 3) := by decide +kernel
theorem dX4_add_57 : decode cX4_add 57 = .ok (.iconst 1, 1) := by decide +kernel
theorem dX4_add_58 : decode cX4_add 58 = .ok (.iadd, 1) := by decide +kernel
theorem dX4_add_59 : decode cX4_add 59 = .ok (.putfield 19, 3) := by decide +kernel
theorem dX4_add_62 : decode cX4_add 62 = .ok (.iconst 1, 1) := by decide +kernel
theorem dX4_add_63 : decode cX4_add 63 = .ok (.ireturn, 1) := by decide +kernel
theorem dX4_comeToNothing_0 : decode cX4_comeToNothing 0 = .ok (.lconst 0, 1) := by decide +kernel
theorem dX4_comeToNothing_1 : decode cX4_comeToNothing 1 = .ok (.lstore_n 1, 1) := by decide +kernel
theorem dX4_comeToNothing_2 : decode cX4_comeToNothing 2 = .ok (.lconst 0, 1) := by decide +kernel
theorem dX4_comeToNothing_3 : decode cX4_comeToNothing 3 = .ok (.lstore_n 3, 1) := by decide +kernel
theorem dX4_comeToNothing_4 : decode cX4_comeToNothing 4 = .ok (.iconst 0, 1) := by decide +kernel
theorem dX4_comeToNothing_5 : decode cX4_comeToNothing 5 = .ok (.istore 5, 2) := by decide +kernel
theorem dX4_comeToNothing_7 : decode cX4_comeToNothing 7 = .ok (.iload 5, 2) := by decide +kernel
theorem dX4_comeToNothing_9 : decode cX4_comeToNothing 9 = .ok (.aload_n 0, 1) := by decide +kernel
theorem dX4_comeToNothing_10 : decode cX4_comeToNothing 10 = .ok (.getfield 19, 3) := by decide +kernel
theorem dX4_comeToNothing_13 : decode cX4_comeToNothing 13 = .ok (.if_icmp .ge 36, 3) := by decide +kernel
theorem dX4_comeToNothing_16 : decode cX4_comeToNothing 16 = .ok (.lload_n 1, 1) := by decide +kernel
theorem dX4_comeToNothing_17 : decode cX4_comeToNothing 17 = .ok (.aload_n 0, 1) := by decide +kernel
theorem dX4_comeToNothing_18 : decode cX4_comeToNothing 18 = .ok (.getfield 15, 3) := by decide +kernel
theorem dX4_comeToNothing_21 : decode cX4_comeToNothing 21 = .ok (.iload 5, 2) := by decide +kernel
theorem dX4_comeToNothing_23 : decode cX4_comeToNothing 23 = .ok (.laload, 1) := by decide +kernel
theorem dX4_comeToNothing_24 : decode cX4_comeToNothing 24 = .ok (.bipush 32, 2) := by decide +kernel
theorem dX4_comeToNothing_26 : decode cX4_comeToNothing 26 = .ok (.lshr, 1) := by decide +kernel
theorem dX4_comeToNothing_27 : decode cX4_comeToNothing 27 = .ok (.ladd, 1) := by decide +kernel
theorem dX4_comeToNothing_28 : decode cX4_comeToNothing 28 = .ok (.lstore_n 1, 1) := by decide +kernel
theorem dX4_comeToNothing_29 : decode cX4_comeToNothing 29 = .ok (.lload_n 3, 1) := by decide +kernel
theorem dX4_comeToNothing_30 : decode cX4_comeToNothing 30 = .ok (.aload_n 0, 1) := by decide +kernel
theorem dX4_comeToNothing_31 : decode cX4_comeToNothing 31 = .ok (.getfield 15, 3) := by decide +kernel
theorem dX4_comeToNothing_34 : decode cX4_comeToNothing 34 = .ok (.iload 5, 2) := by decide +kernel
theorem dX4_comeToNothing_36 : decode cX4_comeToNothing 36 = .ok (.laload, 1) := by decide +kernel
theorem dX4_comeToNothing_37 : decode cX4_comeToNothing 37 = .ok (.ldc2_w 29, 3) := by decide +kernel
theorem dX4_comeToNothing_40 : decode cX4_comeToNothing 40 = .ok (.land, 1) := by decide +kernel
theorem dX4_comeToNothing_41 : decode cX4_comeToNothing 41 = .ok (.ladd, 1) := by decide +kernel
theorem dX4_comeToNothing_42 : decode cX4_comeToNothing 42 = .ok (.lstore_n 3, 1) := by decide +kernel
theorem dX4_comeToNothing_43 : decode cX4_comeToNothing 43 = .ok (.iinc 5 1, 3) := by decide +kernel
theorem dX4_comeToNothing_46 : decode cX4_comeToNothing 46 = .ok (.goto (-39), 3) := by decide +kernel
theorem dX4_comeToNothing_49 : decode cX4_comeToNothing 49 = .ok (.lload_n 3, 1) := by decide +kernel
theorem dX4_comeToNothing_50 : decode cX4_comeToNothing 50 = .ok (.ldc2_w 29, 3) := by decide +kernel
theorem dX4_comeToNothing_53 : decode cX4_comeToNothing 53 = .ok (.land, 1) := by decide +kernel
theorem dX4_comeToNothing_54 : decode cX4_comeToNothing 54 = .ok (.lconst 0, 1) := by decide +kernel
theorem dX4_comeToNothing_55 : decode cX4_comeToNothing 55 = .ok (.lcmp, 1) := by decide +kernel
theorem dX4_comeToNothing_56 : decode cX4_comeToNothing 56 = .ok (.ifCond .ne 18, 3) := by decide +kernel
theorem dX4_comeToNothing_59 : decode cX4_comeToNothing 59 = .ok (.lload_n 1, 1) := by decide +kernel
theorem dX4_comeToNothing_60 : decode cX4_comeToNothing 60 = .ok (.lload_n 3, 1) := by decide +kernel
theorem dX4_comeToNothing_61 : decode cX4_comeToNothing 61 = .ok (.bipush 32, 2) := by decide +kernel
theorem dX4_comeToNothing_63 : decode cX4_comeToNothing 63 = .ok (.lshr, 1) := by decide +kernel
theorem dX4_comeToNothing_64 : decode cX4_comeToNothing 64 = .ok (.ladd, 1) := by decide +kernel
theorem dX4_comeToNothing_65 : decode cX4_comeToNothing 65 = .ok (.lconst 0, 1) := by decide +kernel
theorem dX4_comeToNothing_66 : decode cX4_comeToNothing 66 = .ok (.lcmp, 1) := by decide +kernel
theorem dX4_comeToNothing_67 : decode cX4_comeToNothing 67 = .ok (.ifCond .ne 7, 3) := by decide +kernel
theorem dX4_comeToNothing_70 : decode cX4_comeToNothing 70 = .ok (.iconst 1, 1) := by decide +kernel
theorem dX4_comeToNothing_71 : decode cX4_comeToNothing 71 = .ok (.goto 4, 3) := by decide +kernel
theorem dX4_comeToNothing_74 : decode cX4_comeToNothing 74 = .ok (.iconst 0, 1) := by decide +kernel
theorem dX4_comeToNothing_75 : decode cX4_comeToNothing 75 = .ok (.ireturn, 1) := by decide +kernel
theorem dX5_init_0 : decode cX5_init 0 = .ok (.aload_n 0, 1) := by decide +kernel
theorem dX5_init_1 : decode cX5_init 1 = .ok (.invokespecial 3, 3) := by decide +kernel
theorem dX5_init_4 : decode cX5_init 4 = .ok (.aload_n 0, 1) := by decide +kernel
theorem dX5_init_5 : decode cX5_init 5 = .ok (.sipush 16400, 3) := by decide +kernel
theorem dX5_init_8 : decode cX5_init 8 = .ok (.newarray .byte, 2) := by decide +kernel
theorem dX5_init_10 : decode cX5_init 10 = .ok (.putfield 9, 3) := by decide +kernel
theorem dX5_init_13 : decode cX5_init 13 = .ok (.aload_n 0, 1) := by decide +kernel
theorem dX5_init_14 : decode cX5_init 14 = .ok (.sipush 201, 3) := by decide +kernel
theorem dX5_init_17 : decode cX5_init 17 = .ok (.newarray .int, 2) := by decide +kernel
theorem dX5_init_19 : decode cX5_init 19 = .ok (.putfield 15, 3) := by decide +kernel
theorem dX5_init_22 : decode cX5_init 22 = .ok (.aload_n 0, 1) := by decide +kernel
theorem dX5_init_23 : decode cX5_init 23 = .ok (.new 19, 3) := by decide +kernel
theorem dX5_init_26 : decode cX5_init 26 = .ok (.dup, 1) := by decide +kernel
theorem dX5_init_27 : decode cX5_init 27 = .ok (.invokespecial 21, 3) := by decide +kernel
theorem dX5_init_30 : decode cX5_init 30 = .ok (.putfield 22, 3) := by decide +kernel
theorem dX5_init_33 : decode cX5_init 33 = .ok (.aload_n 0, 1) := by decide +kernel
theorem dX5_init_34 : decode cX5_init 34 = .ok (.sipush 201, 3) := by decide +kernel
theorem dX5_init_37 : decode cX5_init 37 = .ok (.bipush 8, 2) := by decide +kernel
theorem dX5_init_39 : decode cX5_init 39 = .ok (.multianewarray 26 2, 4) := by decide +kernel
theorem dX5_init_43 : decode cX5_init 43 = .ok (.putfield 28, 3) := by decide +kernel
theorem dX5_init_46 : decode cX5_init 46 = .ok (.aload_n 0, 1) := by decide +kernel
theorem dX5_init_47 : decode cX5_init 47 = .ok (.sipush 456, 3) := by decide +kernel
theorem dX5_init_50 : decode cX5_init 50 = .ok (.bipush 8, 2) := by decide +kernel
theorem dX5_init_52 : decode cX5_init 52 = .ok (.multianewarray 26 2, 4) := by decide +kernel
theorem dX5_init_56 : decode cX5_init 56 = .ok (.putfield 31, 3) := by decide +kernel
theorem dX5_init_59 : decode cX5_init 59 = .ok (.aload_n 0, 1) := by decide +kernel
theorem dX5_init_60 : decode cX5_init 60 = .ok (.sipush 456, 3) := by decide +kernel
theorem dX5_init_63 : decode cX5_init 63 = .ok (.newarray .boolean, 2) := by decide +kernel
theorem dX5_init_65 : decode cX5_init 65 = .ok (.putfield 34, 3) := by decide +kernel
theorem dX5_init_68 : decode cX5_init 68 = .ok (.return_, 1) := by decide +kernel
theorem dX5_size_0 : decode cX5_size 0 = .ok (.aload_n 0, 1) := by decide +kernel
theorem dX5_size_1 : decode cX5_size 1 = .ok (.getfield 15, 3) := by decide +kernel
theorem dX5_size_4 : decode cX5_size 4 = .ok (.aload_n 0, 1) := by decide +kernel
theorem dX5_size_5 : decode cX5_size 5 = .ok (.getfield 38, 3) := by decide +kernel
end
section
theorem dX5_size_8 : decode cX5_size 8 = .ok (.iaload, 1) := by decide +kernel
theorem dX5_size_9 : decode cX5_size 9 = .ok (.ireturn, 1) := by decide +kernel
theorem dX5_follow_0 : decode cX5_follow 0 = .ok (.aload_n 0, 1) := by decide +kernel
theorem dX5_follow_1 : decode cX5_follow 1 = .ok (.invokevirtual 42, 3) := by decide +kernel
theorem dX5_follow_4 : decode cX5_follow 4 = .ok (.istore_n 2, 1) := by decide +kernel
theorem dX5_follow_5 : decode cX5_follow 5 = .ok (.aload_n 1, 1) := by decide +kernel
theorem dX5_follow_6 : decode cX5_follow 6 = .ok (.getfield 46, 3) := by decide +kernel
theorem dX5_follow_9 : decode cX5_follow 9 = .ok (.aload_n 1, 1) := by decide +kernel
theorem dX5_follow_10 : decode cX5_follow 10 = .ok (.getfield 49, 3) := by decide +kernel
theorem dX5_follow_13 : decode cX5_follow 13 = .ok (.iaload, 1) := by decide +kernel
theorem dX5_follow_14 : decode cX5_follow 14 = .ok (.istore_n 3, 1) := by decide +kernel
theorem dX5_follow_15 : decode cX5_follow 15 = .ok (.aload_n 1, 1) := by decide +kernel
theorem dX5_follow_16 : decode cX5_follow 16 = .ok (.getfield 50, 3) := by decide +kernel
theorem dX5_follow_19 : decode cX5_follow 19 = .ok (.iload_n 2, 1) := by decide +kernel
theorem dX5_follow_20 : decode cX5_follow 20 = .ok (.aload_n 0, 1) := by decide +kernel
theorem dX5_follow_21 : decode cX5_follow 21 = .ok (.getfield 9, 3) := by decide +kernel
theorem dX5_follow_24 : decode cX5_follow 24 = .ok (.iload_n 2, 1) := by decide +kernel
theorem dX5_follow_25 : decode cX5_follow 25 = .ok (.iload_n 3, 1) := by decide +kernel
theorem dX5_follow_26 : decode cX5_follow 26 = .ok (.iload_n 2, 1) := by decide +kernel
theorem dX5_follow_27 : decode cX5_follow 27 = .ok (.isub, 1) := by decide +kernel
theorem dX5_follow_28 : decode cX5_follow 28 = .ok (.invokestatic 53, 3) := by decide +kernel
theorem dX5_follow_31 : decode cX5_follow 31 = .ok (.aload_n 1, 1) := by decide +kernel
theorem dX5_follow_32 : decode cX5_follow 32 = .ok (.getfield 46, 3) := by decide +kernel
theorem dX5_follow_35 : decode cX5_follow 35 = .ok (.iconst 0, 1) := by decide +kernel
theorem dX5_follow_36 : decode cX5_follow 36 = .ok (.aload_n 0, 1) := by decide +kernel
theorem dX5_follow_37 : decode cX5_follow 37 = .ok (.getfield 15, 3) := by decide +kernel
theorem dX5_follow_40 : decode cX5_follow 40 = .ok (.iconst 0, 1) := by decide +kernel
theorem dX5_follow_41 : decode cX5_follow 41 = .ok (.aload_n 1, 1) := by decide +kernel
theorem dX5_follow_42 : decode cX5_follow 42 = .ok (.getfield 49, 3) := by decide +kernel
theorem dX5_follow_45 : decode cX5_follow 45 = .ok (.iconst 1, 1) := by decide +kernel
theorem dX5_follow_46 : decode cX5_follow 46 = .ok (.iadd, 1) := by decide +kernel
theorem dX5_follow_47 : decode cX5_follow 47 = .ok (.invokestatic 53, 3) := by decide +kernel
theorem dX5_follow_50 : decode cX5_follow 50 = .ok (.aload_n 0, 1) := by decide +kernel
theorem dX5_follow_51 : decode cX5_follow 51 = .ok (.aload_n 1, 1) := by decide +kernel
theorem dX5_follow_52 : decode cX5_follow 52 = .ok (.getfield 49, 3) := by decide +kernel
theorem dX5_follow_55 : decode cX5_follow 55 = .ok (.putfield 38, 3) := by decide +kernel
theorem dX5_follow_58 : decode cX5_follow 58 = .ok (.return_, 1) := by decide +kernel
theorem dX5_number_0 : decode cX5_number 0 = .ok (.lconst 0, 1) := by decide +kernel
theorem dX5_number_1 : decode cX5_number 1 = .ok (.lstore_n 3, 1) := by decide +kernel
theorem dX5_number_2 : decode cX5_number 2 = .ok (.iload_n 1, 1) := by decide +kernel
theorem dX5_number_3 : decode cX5_number 3 = .ok (.istore 5, 2) := by decide +kernel
theorem dX5_number_5 : decode cX5_number 5 = .ok (.iload 5, 2) := by decide +kernel
theorem dX5_number_7 : decode cX5_number 7 = .ok (.iload_n 1, 1) := by decide +kernel
theorem dX5_number_8 : decode cX5_number 8 = .ok (.iload_n 2, 1) := by decide +kernel
theorem dX5_number_9 : decode cX5_number 9 = .ok (.iadd, 1) := by decide +kernel
theorem dX5_number_10 : decode cX5_number 10 = .ok (.if_icmp .ge 40, 3) := by decide +kernel
theorem dX5_number_13 : decode cX5_number 13 = .ok (.lload_n 3, 1) := by decide +kernel
theorem dX5_number_14 : decode cX5_number 14 = .ok (.bipush 8, 2) := by decide +kernel
theorem dX5_number_16 : decode cX5_number 16 = .ok (.lshl, 1) := by decide +kernel
theorem dX5_number_17 : decode cX5_number 17 = .ok (.iload 5, 2) := by decide +kernel
theorem dX5_number_19 : decode cX5_number 19 = .ok (.aload_n 0, 1) := by decide +kernel
theorem dX5_number_20 : decode cX5_number 20 = .ok (.invokevirtual 42, 3) := by decide +kernel
theorem dX5_number_23 : decode cX5_number 23 = .ok (.if_icmp .ge 17, 3) := by decide +kernel
theorem dX5_number_26 : decode cX5_number 26 = .ok (.aload_n 0, 1) := by decide +kernel
theorem dX5_number_27 : decode cX5_number 27 = .ok (.getfield 9, 3) := by decide +kernel
theorem dX5_number_30 : decode cX5_number 30 = .ok (.iload 5, 2) := by decide +kernel
theorem dX5_number_32 : decode cX5_number 32 = .ok (.baload, 1) := by decide +kernel
theorem dX5_number_33 : decode cX5_number 33 = .ok (.sipush 255, 3) := by decide +kernel
theorem dX5_number_36 : decode cX5_number 36 = .ok (.iand, 1) := by decide +kernel
theorem dX5_number_37 : decode cX5_number 37 = .ok (.goto 4, 3) := by decide +kernel
theorem dX5_number_40 : decode cX5_number 40 = .ok (.iconst 0, 1) := by decide +kernel
theorem dX5_number_41 : decode cX5_number 41 = .ok (.i2l, 1) := by decide +kernel
theorem dX5_number_42 : decode cX5_number 42 = .ok (.lor, 1) := by decide +kernel
theorem dX5_number_43 : decode cX5_number 43 = .ok (.lstore_n 3, 1) := by decide +kernel
theorem dX5_number_44 : decode cX5_number 44 = .ok (.iinc 5 1, 3) := by decide +kernel
theorem dX5_number_47 : decode cX5_number 47 = .ok (.goto (-42), 3) := by decide +kernel
theorem dX5_number_50 : decode cX5_number 50 = .ok (.lload_n 3, 1) := by decide +kernel
theorem dX5_number_51 : decode cX5_number 51 = .ok (.lreturn, 1) := by decide +kernel
theorem dX5_flip_0 : decode cX5_flip 0 = .ok (.aload_n 0, 1) := by decide +kernel
theorem dX5_flip_1 : decode cX5_flip 1 = .ok (.getfield 9, 3) := by decide +kernel
theorem dX5_flip_4 : decode cX5_flip 4 = .ok (.iload_n 1, 1) := by decide +kernel
theorem dX5_flip_5 : decode cX5_flip 5 = .ok (.aload_n 0, 1) := by decide +kernel
theorem dX5_flip_6 : decode cX5_flip 6 = .ok (.getfield 9, 3) := by decide +kernel
theorem dX5_flip_9 : decode cX5_flip 9 = .ok (.iload_n 1, 1) := by decide +kernel
theorem dX5_flip_10 : decode cX5_flip 10 = .ok (.baload, 1) := by decide +kernel
theorem dX5_flip_11 : decode cX5_flip 11 = .ok (.iload_n 2, 1) := by decide +kernel
theorem dX5_flip_12 : decode cX5_flip 12 = .ok (.ixor, 1) := by decide +kernel
theorem dX5_flip_13 : decode cX5_flip 13 = .ok (.i2b, 1) := by decide +kernel
theorem dX5_flip_14 : decode cX5_flip 14 = .ok (.bastore, 1) := by decide +kernel
theorem dX5_flip_15 : decode cX5_flip 15 = .ok (.aload_n 0, 1) := by decide +kernel
theorem dX5_flip_16 : decode cX5_flip 16 = .ok (.iload_n 1, 1) := by decide +kernel
theorem dX5_flip_17 : decode cX5_flip 17 = .ok (.invokevirtual 59, 3) := by decide +kernel
theorem dX5_flip_20 : decode cX5_flip 20 = .ok (.istore_n 3, 1) := by decide +kernel
theorem dX5_flip_21 : decode cX5_flip 21 = .ok (.aload_n 0, 1) := by decide +kernel
theorem dX5_flip_22 : decode cX5_flip 22 = .ok (.aload_n 0, 1) := by decide +kernel
theorem dX5_flip_23 : decode cX5_flip 23 = .ok (.getfield 63, 3) := by decide +kernel
theorem dX5_flip_26 : decode cX5_flip 26 = .ok (.iload_n 3, 1) := by decide +kernel
theorem dX5_flip_27 : decode cX5_flip 27 = .ok (.invokestatic 66, 3) := by decide +kernel
theorem dX5_flip_30 : decode cX5_flip 30 = .ok (.putfield 63, 3) := by decide +kernel
theorem dX5_flip_33 : decode cX5_flip 33 = .ok (.iconst 0, 1) := by decide +kernel
theorem dX5_flip_34 : decode cX5_flip 34 = .ok (.istore 4, 2) := by decide +kernel
theorem dX5_flip_36 : decode cX5_flip 36 = .ok (.iload 4, 2) := by decide +kernel
theorem dX5_flip_38 : decode cX5_flip 38 = .ok (.bipush 8, 2) := by decide +kernel
theorem dX5_flip_40 : decode cX5_flip 40 = .ok (.if_icmp .gt 23, 3) := by decide +kernel
theorem dX5_flip_43 : decode cX5_flip 43 = .ok (.aload_n 0, 1) := by decide +kernel
theorem dX5_flip_44 : decode cX5_flip 44 = .ok (.getfield 34, 3) := by decide +kernel
theorem dX5_flip_47 : decode cX5_flip 47 = .ok (.sipush 256, 3) := by decide +kernel
theorem dX5_flip_50 : decode cX5_flip 50 = .ok (.iload_n 3, 1) := by decide +kernel
theorem dX5_flip_51 : decode cX5_flip 51 = .ok (.iadd, 1) := by decide +kernel
theorem dX5_flip_52 : decode cX5_flip 52 = .ok (.iload 4, 2) := by decide +kernel
theorem dX5_flip_54 : decode cX5_flip 54 = .ok (.ishr, 1) := by decide +kernel
theorem dX5_flip_55 : decode cX5_flip 55 = .ok (.iconst 0, 1) := by decide +kernel
theorem dX5_flip_56 : decode cX5_flip 56 = .ok (.bastore, 1) := by decide +kernel
theorem dX5_flip_57 : decode cX5_flip 57 = .ok (.iinc 4 1, 3) := by decide +kernel
theorem dX5_flip_60 : decode cX5_flip 60 = .ok (.goto (-24), 3) := by decide +kernel
theorem dX5_flip_63 : decode cX5_flip 63 = .ok (.return_, 1) := by decide +kernel
theorem dX5_entryWith_0 : decode cX5_entryWith 0 = .ok (.iconst 0, 1) := by decide +kernel
theorem dX5_entryWith_1 : decode cX5_entryWith 1 = .ok (.istore_n 2, 1) := by decide +kernel
theorem dX5_entryWith_2 : decode cX5_entryWith 2 = .ok (.iload_n 2, 1) := by decide +kernel
theorem dX5_entryWith_3 : decode cX5_entryWith 3 = .ok (.iconst 1, 1) := by decide +kernel
theorem dX5_entryWith_4 : decode cX5_entryWith 4 = .ok (.iadd, 1) := by decide +kernel
theorem dX5_entryWith_5 : decode cX5_entryWith 5 = .ok (.aload_n 0, 1) := by decide +kernel
theorem dX5_entryWith_6 : decode cX5_entryWith 6 = .ok (.getfield 38, 3) := by decide +kernel
theorem dX5_entryWith_9 : decode cX5_entryWith 9 = .ok (.if_icmp .ge 21, 3) := by decide +kernel
theorem dX5_entryWith_12 : decode cX5_entryWith 12 = .ok (.aload_n 0, 1) := by decide +kernel
theorem dX5_entryWith_13 : decode cX5_entryWith 13 = .ok (.getfield 15, 3) := by decide +kernel
theorem dX5_entryWith_16 : decode cX5_entryWith 16 = .ok (.iload_n 2, 1) := by decide +kernel
theorem dX5_entryWith_17 : decode cX5_entryWith 17 = .ok (.iconst 1, 1) := by decide +kernel
theorem dX5_entryWith_18 : decode cX5_entryWith 18 = .ok (.iadd, 1) := by decide +kernel
theorem dX5_entryWith_19 : decode cX5_entryWith 19 = .ok (.iaload, 1) := by decide +kernel
theorem dX5_entryWith_20 : decode cX5_entryWith 20 = .ok (.iload_n 1, 1) := by decide +kernel
theorem dX5_entryWith_21 : decode cX5_entryWith 21 = .ok (.if_icmp .gt 9, 3) := by decide +kernel
theorem dX5_entryWith_24 : decode cX5_entryWith 24 = .ok (.iinc 2 1, 3) := by decide +kernel
theorem dX5_entryWith_27 : decode cX5_entryWith 27 = .ok (.goto (-25), 3) := by decide +kernel
theorem dX5_entryWith_30 : decode cX5_entryWith 30 = .ok (.iload_n 2, 1) := by decide +kernel
theorem dX5_entryWith_31 : decode cX5_entryWith 31 = .ok (.ireturn, 1) := by decide +kernel
theorem dX5_chainBehind_0 : decode cX5_chainBehind 0 = .ok (.aload_n 0, 1) := by decide +kernel
theorem dX5_chainBehind_1 : decode cX5_chainBehind 1 = .ok (.getfield 63, 3) := by decide +kernel
theorem dX5_chainBehind_4 : decode cX5_chainBehind 4 = .ok (.istore_n 2, 1) := by decide +kernel
theorem dX5_chainBehind_5 : decode cX5_chainBehind 5 = .ok (.iload_n 2, 1) := by decide +kernel
theorem dX5_chainBehind_6 : decode cX5_chainBehind 6 = .ok (.iload_n 1, 1) := by decide +kernel
theorem dX5_chainBehind_7 : decode cX5_chainBehind 7 = .ok (.if_icmp .ge 69, 3) := by decide +kernel
theorem dX5_chainBehind_10 : decode cX5_chainBehind 10 = .ok (.aload_n 0, 1) := by decide +kernel
theorem dX5_chainBehind_11 : decode cX5_chainBehind 11 = .ok (.getfield 22, 3) := by decide +kernel
theorem dX5_chainBehind_14 : decode cX5_chainBehind 14 = .ok (.invokevirtual 72, 3) := by decide +kernel
theorem dX5_chainBehind_17 : decode cX5_chainBehind 17 = .ok (.aload_n 0, 1) := by decide +kernel
theorem dX5_chainBehind_18 : decode cX5_chainBehind 18 = .ok (.getfield 22, 3) := by decide +kernel
theorem dX5_chainBehind_21 : decode cX5_chainBehind 21 = .ok (.aload_n 0, 1) := by decide +kernel
theorem dX5_chainBehind_22 : decode cX5_chainBehind 22 = .ok (.getfield 28, 3) := by decide +kernel
theorem dX5_chainBehind_25 : decode cX5_chainBehind 25 = .ok (.iload_n 2, 1) := by decide +kernel
theorem dX5_chainBehind_26 : decode cX5_chainBehind 26 = .ok (.aaload, 1) := by decide +kernel
theorem dX5_chainBehind_27 : decode cX5_chainBehind 27 = .ok (.invokevirtual 75, 3) := by decide +kernel
theorem dX5_chainBehind_30 : decode cX5_chainBehind 30 = .ok (.aload_n 0, 1) := by decide +kernel
theorem dX5_chainBehind_31 : decode cX5_chainBehind 31 = .ok (.getfield 22, 3) := by decide +kernel
theorem dX5_chainBehind_34 : decode cX5_chainBehind 34 = .ok (.aload_n 0, 1) := by decide +kernel
theorem dX5_chainBehind_35 : decode cX5_chainBehind 35 = .ok (.getfield 9, 3) := by decide +kernel
theorem dX5_chainBehind_38 : decode cX5_chainBehind 38 = .ok (.aload_n 0, 1) := by decide +kernel
theorem dX5_chainBehind_39 : decode cX5_chainBehind 39 = .ok (.getfield 15, 3) := by decide +kernel
theorem dX5_chainBehind_42 : decode cX5_chainBehind 42 = .ok (.iload_n 2, 1) := by decide +kernel
theorem dX5_chainBehind_43 : decode cX5_chainBehind 43 = .ok (.iaload, 1) := by decide +kernel
theorem dX5_chainBehind_44 : decode cX5_chainBehind 44 = .ok (.aload_n 0, 1) := by decide +kernel
theorem dX5_chainBehind_45 : decode cX5_chainBehind 45 = .ok (.getfield 15, 3) := by decide +kernel
theorem dX5_chainBehind_48 : decode cX5_chainBehind 48 = .ok (.iload_n 2, 1) := by decide +kernel
theorem dX5_chainBehind_49 : decode cX5_chainBehind 49 = .ok (.iconst 1, 1) := by decide +kernel
theorem dX5_chainBehind_50 : decode cX5_chainBehind 50 = .ok (.iadd, 1) := by decide +kernel
theorem dX5_chainBehind_51 : decode cX5_chainBehind 51 = .ok (.iaload, 1) := by decide +kernel
theorem dX5_chainBehind_52 : decode cX5_chainBehind 52 = .ok (.invokevirtual 79, 3) := by decide +kernel
theorem dX5_chainBehind_55 : decode cX5_chainBehind 55 = .ok (.aload_n 0, 1) := by decide +kernel
theorem dX5_chainBehind_56 : decode cX5_chainBehind 56 = .ok (.getfield 22, 3) := by decide +kernel
theorem dX5_chainBehind_59 : decode cX5_chainBehind 59 = .ok (.aload_n 0, 1) := by decide +kernel
theorem dX5_chainBehind_60 : decode cX5_chainBehind 60 = .ok (.getfield 28, 3) := by decide +kernel
theorem dX5_chainBehind_63 : decode cX5_chainBehind 63 = .ok (.iload_n 2, 1) := by decide +kernel
theorem dX5_chainBehind_64 : decode cX5_chainBehind 64 = .ok (.iconst 1, 1) := by decide +kernel
theorem dX5_chainBehind_65 : decode cX5_chainBehind 65 = .ok (.iadd, 1) := by decide +kernel
theorem dX5_chainBehind_66 : decode cX5_chainBehind 66 = .ok (.aaload, 1) := by decide +kernel
theorem dX5_chainBehind_67 : decode cX5_chainBehind 67 = .ok (.invokevirtual 83, 3) := by decide +kernel
theorem dX5_chainBehind_70 : decode cX5_chainBehind 70 = .ok (.iinc 2 1, 3) := by decide +kernel
theorem dX5_chainBehind_73 : decode cX5_chainBehind 73 = .ok (.goto (-68), 3) := by decide +kernel
theorem dX5_chainBehind_76 : decode cX5_chainBehind 76 = .ok (.aload_n 0, 1) := by decide +kernel
theorem dX5_chainBehind_77 : decode cX5_chainBehind 77 = .ok (.aload_n 0, 1) := by decide +kernel
theorem dX5_chainBehind_78 : decode cX5_chainBehind 78 = .ok (.getfield 63, 3) := by decide +kernel
theorem dX5_chainBehind_81 : decode cX5_chainBehind 81 = .ok (.iload_n 1, 1) := by decide +kernel
theorem dX5_chainBehind_82 : decode cX5_chainBehind 82 = .ok (.invokestatic 86, 3) := by decide +kernel
theorem dX5_chainBehind_85 : decode cX5_chainBehind 85 = .ok (.putfield 63, 3) := by decide +kernel
theorem dX5_chainBehind_88 : decode cX5_chainBehind 88 = .ok (.aload_n 0, 1) := by decide +kernel
theorem dX5_chainBehind_89 : decode cX5_chainBehind 89 = .ok (.getfield 28, 3) := by decide +kernel
theorem dX5_chainBehind_92 : decode cX5_chainBehind 92 = .ok (.iload_n 1, 1) := by decide +kernel
theorem dX5_chainBehind_93 : decode cX5_chainBehind 93 = .ok (.aaload, 1) := by decide +kernel
theorem dX5_chainBehind_94 : decode cX5_chainBehind 94 = .ok (.areturn, 1) := by decide +kernel
theorem dX5_leafOf_0 : decode cX5_leafOf 0 = .ok (.aload_n 0, 1) := by decide +kernel
theorem dX5_leafOf_1 : decode cX5_leafOf 1 = .ok (.iconst 0, 1) := by decide +kernel
theorem dX5_leafOf_2 : decode cX5_leafOf 2 = .ok (.iload_n 1, 1) := by decide +kernel
theorem dX5_leafOf_3 : decode cX5_leafOf 3 = .ok (.invokevirtual 89, 3) := by decide +kernel
theorem dX5_leafOf_6 : decode cX5_leafOf 6 = .ok (.areturn, 1) := by decide +kernel
theorem dX5_treeOf_0 : decode cX5_treeOf 0 = .ok (.iload_n 2, 1) := by decide +kernel
theorem dX5_treeOf_1 : decode cX5_treeOf 1 = .ok (.ifCond .ne 19, 3) := by decide +kernel
theorem dX5_treeOf_4 : decode cX5_treeOf 4 = .ok (.aload_n 0, 1) := by decide +kernel
theorem dX5_treeOf_5 : decode cX5_treeOf 5 = .ok (.getfield 22, 3) := by decide +kernel
theorem dX5_treeOf_8 : decode cX5_treeOf 8 = .ok (.invokevirtual 72, 3) := by decide +kernel
theorem dX5_treeOf_11 : decode cX5_treeOf 11 = .ok (.aload_n 0, 1) := by decide +kernel
theorem dX5_treeOf_12 : decode cX5_treeOf 12 = .ok (.getfield 22, 3) := by decide +kernel
theorem dX5_treeOf_15 : decode cX5_treeOf 15 = .ok (.aload_n 3, 1) := by decide +kernel
theorem dX5_treeOf_16 : decode cX5_treeOf 16 = .ok (.invokevirtual 83, 3) := by decide +kernel
theorem dX5_treeOf_19 : decode cX5_treeOf 19 = .ok (.return_, 1) := by decide +kernel
theorem dX5_treeOf_20 : decode cX5_treeOf 20 = .ok (.iload_n 1, 1) := by decide +kernel
theorem dX5_treeOf_21 : decode cX5_treeOf 21 = .ok (.iload_n 2, 1) := by decide +kernel
theorem dX5_treeOf_22 : decode cX5_treeOf 22 = .ok (.iadd, 1) := by decide +kernel
theorem dX5_treeOf_23 : decode cX5_treeOf 23 = .ok (.istore 4, 2) := by decide +kernel
theorem dX5_treeOf_25 : decode cX5_treeOf 25 = .ok (.iconst 0, 1) := by decide +kernel
theorem dX5_treeOf_26 : decode cX5_treeOf 26 = .ok (.istore 5, 2) := by decide +kernel
theorem dX5_treeOf_28 : decode cX5_treeOf 28 = .ok (.iload 5, 2) := by decide +kernel
theorem dX5_treeOf_30 : decode cX5_treeOf 30 = .ok (.bipush 8, 2) := by decide +kernel
theorem dX5_treeOf_32 : decode cX5_treeOf 32 = .ok (.if_icmp .ge 74, 3) := by decide +kernel
theorem dX5_treeOf_35 : decode cX5_treeOf 35 = .ok (.iload_n 2, 1) := by decide +kernel
theorem dX5_treeOf_36 : decode cX5_treeOf 36 = .ok (.iload 5, 2) := by decide +kernel
theorem dX5_treeOf_38 : decode cX5_treeOf 38 = .ok (.ishr, 1) := by decide +kernel
theorem dX5_treeOf_39 : decode cX5_treeOf 39 = .ok (.iconst 1, 1) := by decide +kernel
theorem dX5_treeOf_40 : decode cX5_treeOf 40 = .ok (.iand, 1) := by decide +kernel
theorem dX5_treeOf_41 : decode cX5_treeOf 41 = .ok (.iconst 1, 1) := by decide +kernel
theorem dX5_treeOf_42 : decode cX5_treeOf 42 = .ok (.if_icmp .ne 58, 3) := by decide +kernel
theorem dX5_treeOf_45 : decode cX5_treeOf 45 = .ok (.iload 4, 2) := by decide +kernel
theorem dX5_treeOf_47 : decode cX5_treeOf 47 = .ok (.iconst 1, 1) := by decide +kernel
theorem dX5_treeOf_48 : decode cX5_treeOf 48 = .ok (.iload 5, 2) := by decide +kernel
theorem dX5_treeOf_50 : decode cX5_treeOf 50 = .ok (.ishl, 1) := by decide +kernel
theorem dX5_treeOf_51 : decode cX5_treeOf 51 = .ok (.isub, 1) := by decide +kernel
theorem dX5_treeOf_52 : decode cX5_treeOf 52 = .ok (.istore 4, 2) := by decide +kernel
theorem dX5_treeOf_54 : decode cX5_treeOf 54 = .ok (.aload_n 0, 1) := by decide +kernel
theorem dX5_treeOf_55 : decode cX5_treeOf 55 = .ok (.iload 5, 2) := by decide +kernel
theorem dX5_treeOf_57 : decode cX5_treeOf 57 = .ok (.iload 4, 2) := by decide +kernel
theorem dX5_treeOf_59 : decode cX5_treeOf 59 = .ok (.iload 5, 2) := by decide +kernel
theorem dX5_treeOf_61 : decode cX5_treeOf 61 = .ok (.ishr, 1) := by decide +kernel
theorem dX5_treeOf_62 : decode cX5_treeOf 62 = .ok (.invokevirtual 89, 3) := by decide +kernel
theorem dX5_treeOf_65 : decode cX5_treeOf 65 = .ok (.astore 6, 2) := by decide +kernel
theorem dX5_treeOf_67 : decode cX5_treeOf 67 = .ok (.iload 4, 2) := by decide +kernel
theorem dX5_treeOf_69 : decode cX5_treeOf 69 = .ok (.iconst 1, 1) := by decide +kernel
theorem dX5_treeOf_70 : decode cX5_treeOf 70 = .ok (.iload 5, 2) := by decide +kernel
theorem dX5_treeOf_72 : decode cX5_treeOf 72 = .ok (.ishl, 1) := by decide +kernel
theorem dX5_treeOf_73 : decode cX5_treeOf 73 = .ok (.iadd, 1) := by decide +kernel
theorem dX5_treeOf_74 : decode cX5_treeOf 74 = .ok (.iload_n 1, 1) := by decide +kernel
theorem dX5_treeOf_75 : decode cX5_treeOf 75 = .ok (.iload_n 2, 1) := by decide +kernel
theorem dX5_treeOf_76 : decode cX5_treeOf 76 = .ok (.iadd, 1) := by decide +kernel
theorem dX5_treeOf_77 : decode cX5_treeOf 77 = .ok (.if_icmp .ne 12, 3) := by decide +kernel
theorem dX5_treeOf_80 : decode cX5_treeOf 80 = .ok (.aload 6, 2) := by decide +kernel
theorem dX5_treeOf_82 : decode cX5_treeOf 82 = .ok (.aload_n 3, 1) := by decide +kernel
theorem dX5_treeOf_83 : decode cX5_treeOf 83 = .ok (.invokestatic 93, 3) := by decide +kernel
theorem dX5_treeOf_86 : decode cX5_treeOf 86 = .ok (.goto 14, 3) := by decide +kernel
theorem dX5_treeOf_89 : decode cX5_treeOf 89 = .ok (.aload_n 0, 1) := by decide +kernel
theorem dX5_treeOf_90 : decode cX5_treeOf 90 = .ok (.getfield 22, 3) := by decide +kernel
theorem dX5_treeOf_93 : decode cX5_treeOf 93 = .ok (.aload 6, 2) := by decide +kernel
theorem dX5_treeOf_95 : decode cX5_treeOf 95 = .ok (.aload_n 3, 1) := by decide +kernel
theorem dX5_treeOf_96 : decode cX5_treeOf 96 = .ok (.aload_n 3, 1) := by decide +kernel
theorem dX5_treeOf_97 : decode cX5_treeOf 97 = .ok (.invokevirtual 97, 3) := by decide +kernel
theorem dX5_treeOf_100 : decode cX5_treeOf 100 = .ok (.iinc 5 1, 3) := by decide +kernel
theorem dX5_treeOf_103 : decode cX5_treeOf 103 = .ok (.goto (-75), 3) := by decide +kernel
theorem dX5_treeOf_106 : decode cX5_treeOf 106 = .ok (.return_, 1) := by decide +kernel
theorem dX5_nodeOf_0 : decode cX5_nodeOf 0 = .ok (.iconst 0, 1) := by decide +kernel
theorem dX5_nodeOf_1 : decode cX5_nodeOf 1 = .ok (.istore_n 3, 1) := by decide +kernel
theorem dX5_nodeOf_2 : decode cX5_nodeOf 2 = .ok (.iload_n 3, 1) := by decide +kernel
theorem dX5_nodeOf_3 : decode cX5_nodeOf 3 = .ok (.iload_n 1, 1) := by decide +kernel
theorem dX5_nodeOf_4 : decode cX5_nodeOf 4 = .ok (.if_icmp .gt 65, 3) := by decide +kernel
theorem dX5_nodeOf_7 : decode cX5_nodeOf 7 = .ok (.sipush 256, 3) := by decide +kernel
theorem dX5_nodeOf_10 : decode cX5_nodeOf 10 = .ok (.iload_n 3, 1) := by decide +kernel
theorem dX5_nodeOf_11 : decode cX5_nodeOf 11 = .ok (.ishr, 1) := by decide +kernel
theorem dX5_nodeOf_12 : decode cX5_nodeOf 12 = .ok (.iload_n 2, 1) := by decide +kernel
theorem dX5_nodeOf_13 : decode cX5_nodeOf 13 = .ok (.iload_n 1, 1) := by decide +kernel
theorem dX5_nodeOf_14 : decode cX5_nodeOf 14 = .ok (.iload_n 3, 1) := by decide +kernel
theorem dX5_nodeOf_15 : decode cX5_nodeOf 15 = .ok (.isub, 1) := by decide +kernel
theorem dX5_nodeOf_16 : decode cX5_nodeOf 16 = .ok (.ishl, 1) := by decide +kernel
theorem dX5_nodeOf_17 : decode cX5_nodeOf 17 = .ok (.iadd, 1) := by decide +kernel
theorem dX5_nodeOf_18 : decode cX5_nodeOf 18 = .ok (.istore 4, 2) := by decide +kernel
theorem dX5_nodeOf_20 : decode cX5_nodeOf 20 = .ok (.iload 4, 2) := by decide +kernel
theorem dX5_nodeOf_22 : decode cX5_nodeOf 22 = .ok (.iconst 1, 1) := by decide +kernel
theorem dX5_nodeOf_23 : decode cX5_nodeOf 23 = .ok (.iload_n 1, 1) := by decide +kernel
theorem dX5_nodeOf_24 : decode cX5_nodeOf 24 = .ok (.iload_n 3, 1) := by decide +kernel
theorem dX5_nodeOf_25 : decode cX5_nodeOf 25 = .ok (.isub, 1) := by decide +kernel
theorem dX5_nodeOf_26 : decode cX5_nodeOf 26 = .ok (.ishl, 1) := by decide +kernel
theorem dX5_nodeOf_27 : decode cX5_nodeOf 27 = .ok (.iadd, 1) := by decide +kernel
theorem dX5_nodeOf_28 : decode cX5_nodeOf 28 = .ok (.istore 5, 2) := by decide +kernel
theorem dX5_nodeOf_30 : decode cX5_nodeOf 30 = .ok (.iload 4, 2) := by decide +kernel
theorem dX5_nodeOf_32 : decode cX5_nodeOf 32 = .ok (.istore 6, 2) := by decide +kernel
theorem dX5_nodeOf_34 : decode cX5_nodeOf 34 = .ok (.iload 6, 2) := by decide +kernel
theorem dX5_nodeOf_36 : decode cX5_nodeOf 36 = .ok (.iload 5, 2) := by decide +kernel
theorem dX5_nodeOf_38 : decode cX5_nodeOf 38 = .ok (.if_icmp .ge 25, 3) := by decide +kernel
theorem dX5_nodeOf_41 : decode cX5_nodeOf 41 = .ok (.aload_n 0, 1) := by decide +kernel
theorem dX5_nodeOf_42 : decode cX5_nodeOf 42 = .ok (.getfield 34, 3) := by decide +kernel
theorem dX5_nodeOf_45 : decode cX5_nodeOf 45 = .ok (.iload 6, 2) := by decide +kernel
theorem dX5_nodeOf_47 : decode cX5_nodeOf 47 = .ok (.baload, 1) := by decide +kernel
theorem dX5_nodeOf_48 : decode cX5_nodeOf 48 = .ok (.ifCond .ne 9, 3) := by decide +kernel
theorem dX5_nodeOf_51 : decode cX5_nodeOf 51 = .ok (.aload_n 0, 1) := by decide +kernel
theorem dX5_nodeOf_52 : decode cX5_nodeOf 52 = .ok (.iload 6, 2) := by decide +kernel
theorem dX5_nodeOf_54 : decode cX5_nodeOf 54 = .ok (.invokevirtual 101, 3) := by decide +kernel
theorem dX5_nodeOf_57 : decode cX5_nodeOf 57 = .ok (.iinc 6 1, 3) := by decide +kernel
theorem dX5_nodeOf_60 : decode cX5_nodeOf 60 = .ok (.goto (-26), 3) := by decide +kernel
theorem dX5_nodeOf_63 : decode cX5_nodeOf 63 = .ok (.iinc 3 1, 3) := by decide +kernel
theorem dX5_nodeOf_66 : decode cX5_nodeOf 66 = .ok (.goto (-64), 3) := by decide +kernel
theorem dX5_nodeOf_69 : decode cX5_nodeOf 69 = .ok (.aload_n 0, 1) := by decide +kernel
theorem dX5_nodeOf_70 : decode cX5_nodeOf 70 = .ok (.getfield 31, 3) := by decide +kernel
theorem dX5_nodeOf_73 : decode cX5_nodeOf 73 = .ok (.sipush 256, 3) := by decide +kernel
theorem dX5_nodeOf_76 : decode cX5_nodeOf 76 = .ok (.iload_n 1, 1) := by decide +kernel
theorem dX5_nodeOf_77 : decode cX5_nodeOf 77 = .ok (.ishr, 1) := by decide +kernel
theorem dX5_nodeOf_78 : decode cX5_nodeOf 78 = .ok (.iload_n 2, 1) := by decide +kernel
theorem dX5_nodeOf_79 : decode cX5_nodeOf 79 = .ok (.iadd, 1) := by decide +kernel
theorem dX5_nodeOf_80 : decode cX5_nodeOf 80 = .ok (.aaload, 1) := by decide +kernel
theorem dX5_nodeOf_81 : decode cX5_nodeOf 81 = .ok (.areturn, 1) := by decide +kernel
theorem dX5_learn_0 : decode cX5_learn 0 = .ok (.aload_n 0, 1) := by decide +kernel
theorem dX5_learn_1 : decode cX5_learn 1 = .ok (.getfield 34, 3) := by decide +kernel
theorem dX5_learn_4 : decode cX5_learn 4 = .ok (.iload_n 1, 1) := by decide +kernel
theorem dX5_learn_5 : decode cX5_learn 5 = .ok (.iconst 1, 1) := by decide +kernel
theorem dX5_learn_6 : decode cX5_learn 6 = .ok (.bastore, 1) := by decide +kernel
theorem dX5_learn_7 : decode cX5_learn 7 = .ok (.iload_n 1, 1) := by decide +kernel
theorem dX5_learn_8 : decode cX5_learn 8 = .ok (.sipush 256, 3) := by decide +kernel
theorem dX5_learn_11 : decode cX5_learn 11 = .ok (.if_icmp .ge 35, 3) := by decide +kernel
theorem dX5_learn_14 : decode cX5_learn 14 = .ok (.aload_n 0, 1) := by decide +kernel
theorem dX5_learn_15 : decode cX5_learn 15 = .ok (.getfield 22, 3) := by decide +kernel
theorem dX5_learn_18 : decode cX5_learn 18 = .ok (.aload_n 0, 1) := by decide +kernel
theorem dX5_learn_19 : decode cX5_learn 19 = .ok (.getfield 31, 3) := by decide +kernel
theorem dX5_learn_22 : decode cX5_learn 22 = .ok (.iconst 2, 1) := by decide +kernel
theorem dX5_learn_23 : decode cX5_learn 23 = .ok (.iload_n 1, 1) := by decide +kernel
theorem dX5_learn_24 : decode cX5_learn 24 = .ok (.imul, 1) := by decide +kernel
theorem dX5_learn_25 : decode cX5_learn 25 = .ok (.aaload, 1) := by decide +kernel
theorem dX5_learn_26 : decode cX5_learn 26 = .ok (.aload_n 0, 1) := by decide +kernel
theorem dX5_learn_27 : decode cX5_learn 27 = .ok (.getfield 31, 3) := by decide +kernel
theorem dX5_learn_30 : decode cX5_learn 30 = .ok (.iconst 2, 1) := by decide +kernel
theorem dX5_learn_31 : decode cX5_learn 31 = .ok (.iload_n 1, 1) := by decide +kernel
theorem dX5_learn_32 : decode cX5_learn 32 = .ok (.imul, 1) := by decide +kernel
theorem dX5_learn_33 : decode cX5_learn 33 = .ok (.iconst 1, 1) := by decide +kernel
theorem dX5_learn_34 : decode cX5_learn 34 = .ok (.iadd, 1) := by decide +kernel
theorem dX5_learn_35 : decode cX5_learn 35 = .ok (.aaload, 1) := by decide +kernel
theorem dX5_learn_36 : decode cX5_learn 36 = .ok (.aload_n 0, 1) := by decide +kernel
theorem dX5_learn_37 : decode cX5_learn 37 = .ok (.getfield 31, 3) := by decide +kernel
theorem dX5_learn_40 : decode cX5_learn 40 = .ok (.iload_n 1, 1) := by decide +kernel
theorem dX5_learn_41 : decode cX5_learn 41 = .ok (.aaload, 1) := by decide +kernel
theorem dX5_learn_42 : decode cX5_learn 42 = .ok (.invokevirtual 97, 3) := by decide +kernel
theorem dX5_learn_45 : decode cX5_learn 45 = .ok (.return_, 1) := by decide +kernel
theorem dX5_learn_46 : decode cX5_learn 46 = .ok (.aload_n 0, 1) := by decide +kernel
theorem dX5_learn_47 : decode cX5_learn 47 = .ok (.getfield 22, 3) := by decide +kernel
theorem dX5_learn_50 : decode cX5_learn 50 = .ok (.invokevirtual 72, 3) := by decide +kernel
theorem dX5_learn_53 : decode cX5_learn 53 = .ok (.aload_n 0, 1) := by decide +kernel
theorem dX5_learn_54 : decode cX5_learn 54 = .ok (.getfield 22, 3) := by decide +kernel
theorem dX5_learn_57 : decode cX5_learn 57 = .ok (.iconst 0, 1) := by decide +kernel
theorem dX5_learn_58 : decode cX5_learn 58 = .ok (.invokevirtual 105, 3) := by decide +kernel
theorem dX5_learn_61 : decode cX5_learn 61 = .ok (.aload_n 0, 1) := by decide +kernel
theorem dX5_learn_62 : decode cX5_learn 62 = .ok (.getfield 22, 3) := by decide +kernel
theorem dX5_learn_65 : decode cX5_learn 65 = .ok (.aload_n 0, 1) := by decide +kernel
theorem dX5_learn_66 : decode cX5_learn 66 = .ok (.getfield 9, 3) := by decide +kernel
theorem dX5_learn_69 : decode cX5_learn 69 = .ok (.aload_n 0, 1) := by decide +kernel
theorem dX5_learn_70 : decode cX5_learn 70 = .ok (.getfield 15, 3) := by decide +kernel
theorem dX5_learn_73 : decode cX5_learn 73 = .ok (.iload_n 1, 1) := by decide +kernel
theorem dX5_learn_74 : decode cX5_learn 74 = .ok (.sipush 256, 3) := by decide +kernel
theorem dX5_learn_77 : decode cX5_learn 77 = .ok (.isub, 1) := by decide +kernel
theorem dX5_learn_78 : decode cX5_learn 78 = .ok (.iaload, 1) := by decide +kernel
theorem dX5_learn_79 : decode cX5_learn 79 = .ok (.aload_n 0, 1) := by decide +kernel
theorem dX5_learn_80 : decode cX5_learn 80 = .ok (.getfield 15, 3) := by decide +kernel
theorem dX5_learn_83 : decode cX5_learn 83 = .ok (.iload_n 1, 1) := by decide +kernel
theorem dX5_learn_84 : decode cX5_learn 84 = .ok (.sipush 256, 3) := by decide +kernel
theorem dX5_learn_87 : decode cX5_learn 87 = .ok (.isub, 1) := by decide +kernel
theorem dX5_learn_88 : decode cX5_learn 88 = .ok (.iconst 1, 1) := by decide +kernel
theorem dX5_learn_89 : decode cX5_learn 89 = .ok (.iadd, 1) := by decide +kernel
theorem dX5_learn_90 : decode cX5_learn 90 = .ok (.iaload, 1) := by decide +kernel
theorem dX5_learn_91 : decode cX5_learn 91 = .ok (.invokevirtual 79, 3) := by decide +kernel
theorem dX5_learn_94 : decode cX5_learn 94 = .ok (.aload_n 0, 1) := by decide +kernel
theorem dX5_learn_95 : decode cX5_learn 95 = .ok (.getfield 22, 3) := by decide +kernel
theorem dX5_learn_98 : decode cX5_learn 98 = .ok (.aload_n 0, 1) := by decide +kernel
theorem dX5_learn_99 : decode cX5_learn 99 = .ok (.getfield 31, 3) := by decide +kernel
theorem dX5_learn_102 : decode cX5_learn 102 = .ok (.iload_n 1, 1) := by decide +kernel
theorem dX5_learn_103 : decode cX5_learn 103 = .ok (.aaload, 1) := by decide +kernel
theorem dX5_learn_104 : decode cX5_learn 104 = .ok (.invokevirtual 83, 3) := by decide +kernel
theorem dX5_learn_107 : decode cX5_learn 107 = .ok (.return_, 1) := by decide +kernel
theorem dX6_init_0 : decode cX6_init 0 = .ok (.aload_n 0, 1) := by decide +kernel
theorem dX6_init_1 : decode cX6_init 1 = .ok (.invokespecial 3, 3) := by decide +kernel
theorem dX6_init_4 : decode cX6_init 4 = .ok (.aload_n 0, 1) := by decide +kernel
theorem dX6_init_5 : decode cX6_init 5 = .ok (.sipush 128, 3) := by decide +kernel
theorem dX6_init_8 : decode cX6_init 8 = .ok (.newarray .byte, 2) := by decide +kernel
theorem dX6_init_10 : decode cX6_init 10 = .ok (.putfield 11, 3) := by decide +kernel
theorem dX6_init_13 : decode cX6_init 13 = .ok (.aload_n 0, 1) := by decide +kernel
theorem dX6_init_14 : decode cX6_init 14 = .ok (.bipush 64, 2) := by decide +kernel
theorem dX6_init_16 : decode cX6_init 16 = .ok (.newarray .int, 2) := by decide +kernel
theorem dX6_init_18 : decode cX6_init 18 = .ok (.putfield 15, 3) := by decide +kernel
theorem dX6_init_21 : decode cX6_init 21 = .ok (.aload_n 0, 1) := by decide +kernel
theorem dX6_init_22 : decode cX6_init 22 = .ok (.bipush 8, 2) := by decide +kernel
theorem dX6_init_24 : decode cX6_init 24 = .ok (.newarray .int, 2) := by decide +kernel
theorem dX6_init_26 : decode cX6_init 26 = .ok (.putfield 19, 3) := by decide +kernel
theorem dX6_init_29 : decode cX6_init 29 = .ok (.return_, 1) := by decide +kernel
theorem dX6_begin_0 : decode cX6_begin 0 = .ok (.aload_n 0, 1) := by decide +kernel
theorem dX6_begin_1 : decode cX6_begin 1 = .ok (.iconst 0, 1) := by decide +kernel
theorem dX6_begin_2 : decode cX6_begin 2 = .ok (.putfield 22, 3) := by decide +kernel
theorem dX6_begin_5 : decode cX6_begin 5 = .ok (.return_, 1) := by decide +kernel
theorem dX6_add_0 : decode cX6_add 0 = .ok (.aload_n 0, 1) := by decide +kernel
theorem dX6_add_1 : decode cX6_add 1 = .ok (.getfield 22, 3) := by decide +kernel
theorem dX6_add_4 : decode cX6_add 4 = .ok (.bipush 119, 2) := by decide +kernel
theorem dX6_add_6 : decode cX6_add 6 = .ok (.if_icmp .ge 24, 3) := by decide +kernel
theorem dX6_add_9 : decode cX6_add 9 = .ok (.aload_n 0, 1) := by decide +kernel
theorem dX6_add_10 : decode cX6_add 10 = .ok (.getfield 11, 3) := by decide +kernel
theorem dX6_add_13 : decode cX6_add 13 = .ok (.aload_n 0, 1) := by decide +kernel
theorem dX6_add_14 : decode cX6_add 14 = .ok (.getfield 22, 3) := by decide +kernel
theorem dX6_add_17 : decode cX6_add 17 = .ok (.iload_n 1, 1) := by decide +kernel
theorem dX6_add_18 : decode cX6_add 18 = .ok (.i2b, 1) := by decide +kernel
theorem dX6_add_19 : decode cX6_add 19 = .ok (.bastore, 1) := by decide +kernel
theorem dX6_add_20 : decode cX6_add 20 = .ok (.aload_n 0, 1) := by decide +kernel
theorem dX6_add_21 : decode cX6_add 21 = .ok (.dup, 1) := by decide +kernel
theorem dX6_add_22 : decode cX6_add 22 = .ok (.getfield 22, 3) := by decide +kernel
theorem dX6_add_25 : decode cX6_add 25 = .ok (.iconst 1, 1) := by decide +kernel
theorem dX6_add_26 : decode cX6_add 26 = .ok (.iadd, 1) := by decide +kernel
theorem dX6_add_27 : decode cX6_add 27 = .ok (.putfield 22, 3) := by decide +kernel
theorem dX6_add_30 : decode cX6_add 30 = .ok (.return_, 1) := by decide +kernel
theorem dX6_addBytes_0 : decode cX6_addBytes 0 = .ok (.iload_n 2, 1) := by decide +kernel
theorem dX6_addBytes_1 : decode cX6_addBytes 1 = .ok (.istore 4, 2) := by decide +kernel
theorem dX6_addBytes_3 : decode cX6_addBytes 3 = .ok (.iload 4, 2) := by decide +kernel
theorem dX6_addBytes_5 : decode cX6_addBytes 5 = .ok (.iload_n 3, 1) := by decide +kernel
theorem dX6_addBytes_6 : decode cX6_addBytes 6 = .ok (.if_icmp .ge 17, 3) := by decide +kernel
theorem dX6_addBytes_9 : decode cX6_addBytes 9 = .ok (.aload_n 0, 1) := by decide +kernel
theorem dX6_addBytes_10 : decode cX6_addBytes 10 = .ok (.aload_n 1, 1) := by decide +kernel
theorem dX6_addBytes_11 : decode cX6_addBytes 11 = .ok (.iload 4, 2) := by decide +kernel
theorem dX6_addBytes_13 : decode cX6_addBytes 13 = .ok (.baload, 1) := by decide +kernel
theorem dX6_addBytes_14 : decode cX6_addBytes 14 = .ok (.invokevirtual 26, 3) := by decide +kernel
theorem dX6_addBytes_17 : decode cX6_addBytes 17 = .ok (.iinc 4 1, 3) := by decide +kernel
theorem dX6_addBytes_20 : decode cX6_addBytes 20 = .ok (.goto (-17), 3) := by decide +kernel
theorem dX6_addBytes_23 : decode cX6_addBytes 23 = .ok (.return_, 1) := by decide +kernel
theorem dX6_addHash_0 : decode cX6_addHash 0 = .ok (.iconst 0, 1) := by decide +kernel
theorem dX6_addHash_1 : decode cX6_addHash 1 = .ok (.istore_n 2, 1) := by decide +kernel
theorem dX6_addHash_2 : decode cX6_addHash 2 = .ok (.iload_n 2, 1) := by decide +kernel
theorem dX6_addHash_3 : decode cX6_addHash 3 = .ok (.bipush 32, 2) := by decide +kernel
theorem dX6_addHash_5 : decode cX6_addHash 5 = .ok (.if_icmp .ge 18, 3) := by decide +kernel
theorem dX6_addHash_8 : decode cX6_addHash 8 = .ok (.aload_n 0, 1) := by decide +kernel
theorem dX6_addHash_9 : decode cX6_addHash 9 = .ok (.aload_n 1, 1) := by decide +kernel
theorem dX6_addHash_10 : decode cX6_addHash 10 = .ok (.iload_n 2, 1) := by decide +kernel
theorem dX6_addHash_11 : decode cX6_addHash 11 = .ok (.invokestatic 30, 3) := by decide +kernel
theorem dX6_addHash_14 : decode cX6_addHash 14 = .ok (.invokevirtual 26, 3) := by decide +kernel
theorem dX6_addHash_17 : decode cX6_addHash 17 = .ok (.iinc 2 1, 3) := by decide +kernel
theorem dX6_addHash_20 : decode cX6_addHash 20 = .ok (.goto (-18), 3) := by decide +kernel
theorem dX6_addHash_23 : decode cX6_addHash 23 = .ok (.return_, 1) := by decide +kernel
theorem dX6_join_0 : decode cX6_join 0 = .ok (.aload_n 0, 1) := by decide +kernel
theorem dX6_join_1 : decode cX6_join 1 = .ok (.invokevirtual 34, 3) := by decide +kernel
theorem dX6_join_4 : decode cX6_join 4 = .ok (.aload_n 0, 1) := by decide +kernel
theorem dX6_join_5 : decode cX6_join 5 = .ok (.iconst 1, 1) := by decide +kernel
theorem dX6_join_6 : decode cX6_join 6 = .ok (.invokevirtual 26, 3) := by decide +kernel
theorem dX6_join_9 : decode cX6_join 9 = .ok (.aload_n 0, 1) := by decide +kernel
theorem dX6_join_10 : decode cX6_join 10 = .ok (.aload_n 1, 1) := by decide +kernel
theorem dX6_join_11 : decode cX6_join 11 = .ok (.invokevirtual 37, 3) := by decide +kernel
theorem dX6_join_14 : decode cX6_join 14 = .ok (.aload_n 0, 1) := by decide +kernel
theorem dX6_join_15 : decode cX6_join 15 = .ok (.aload_n 2, 1) := by decide +kernel
theorem dX6_join_16 : decode cX6_join 16 = .ok (.invokevirtual 37, 3) := by decide +kernel
theorem dX6_join_19 : decode cX6_join 19 = .ok (.aload_n 0, 1) := by decide +kernel
theorem dX6_join_20 : decode cX6_join 20 = .ok (.aload_n 3, 1) := by decide +kernel
theorem dX6_join_21 : decode cX6_join 21 = .ok (.invokevirtual 41, 3) := by decide +kernel
theorem dX6_join_24 : decode cX6_join 24 = .ok (.return_, 1) := by decide +kernel
theorem dX6_end_0 : decode cX6_end 0 = .ok (.aload_n 0, 1) := by decide +kernel
theorem dX6_end_1 : decode cX6_end 1 = .ok (.getfield 22, 3) := by decide +kernel
theorem dX6_end_4 : decode cX6_end 4 = .ok (.bipush 9, 2) := by decide +kernel
theorem dX6_end_6 : decode cX6_end 6 = .ok (.iadd, 1) := by decide +kernel
theorem dX6_end_7 : decode cX6_end 7 = .ok (.bipush 64, 2) := by decide +kernel
theorem dX6_end_9 : decode cX6_end 9 = .ok (.if_icmp .gt 7, 3) := by decide +kernel
theorem dX6_end_12 : decode cX6_end 12 = .ok (.iconst 1, 1) := by decide +kernel
theorem dX6_end_13 : decode cX6_end 13 = .ok (.goto 4, 3) := by decide +kernel
theorem dX6_end_16 : decode cX6_end 16 = .ok (.iconst 2, 1) := by decide +kernel
theorem dX6_end_17 : decode cX6_end 17 = .ok (.istore_n 2, 1) := by decide +kernel
theorem dX6_end_18 : decode cX6_end 18 = .ok (.iload_n 2, 1) := by decide +kernel
theorem dX6_end_19 : decode cX6_end 19 = .ok (.bipush 64, 2) := by decide +kernel
theorem dX6_end_21 : decode cX6_end 21 = .ok (.imul, 1) := by decide +kernel
theorem dX6_end_22 : decode cX6_end 22 = .ok (.istore_n 3, 1) := by decide +kernel
theorem dX6_end_23 : decode cX6_end 23 = .ok (.aload_n 0, 1) := by decide +kernel
theorem dX6_end_24 : decode cX6_end 24 = .ok (.getfield 11, 3) := by decide +kernel
theorem dX6_end_27 : decode cX6_end 27 = .ok (.aload_n 0, 1) := by decide +kernel
theorem dX6_end_28 : decode cX6_end 28 = .ok (.getfield 22, 3) := by decide +kernel
theorem dX6_end_31 : decode cX6_end 31 = .ok (.bipush (-128), 2) := by decide +kernel
theorem dX6_end_33 : decode cX6_end 33 = .ok (.bastore, 1) := by decide +kernel
theorem dX6_end_34 : decode cX6_end 34 = .ok (.aload_n 0, 1) := by decide +kernel
theorem dX6_end_35 : decode cX6_end 35 = .ok (.getfield 22, 3) := by decide +kernel
theorem dX6_end_38 : decode cX6_end 38 = .ok (.iconst 1, 1) := by decide +kernel
theorem dX6_end_39 : decode cX6_end 39 = .ok (.iadd, 1) := by decide +kernel
theorem dX6_end_40 : decode cX6_end 40 = .ok (.istore 4, 2) := by decide +kernel
theorem dX6_end_42 : decode cX6_end 42 = .ok (.iload 4, 2) := by decide +kernel
theorem dX6_end_44 : decode cX6_end 44 = .ok (.iload_n 3, 1) := by decide +kernel
theorem dX6_end_45 : decode cX6_end 45 = .ok (.iconst 2, 1) := by decide +kernel
theorem dX6_end_46 : decode cX6_end 46 = .ok (.isub, 1) := by decide +kernel
theorem dX6_end_47 : decode cX6_end 47 = .ok (.if_icmp .ge 17, 3) := by decide +kernel
theorem dX6_end_50 : decode cX6_end 50 = .ok (.aload_n 0, 1) := by decide +kernel
theorem dX6_end_51 : decode cX6_end 51 = .ok (.getfield 11, 3) := by decide +kernel
theorem dX6_end_54 : decode cX6_end 54 = .ok (.iload 4, 2) := by decide +kernel
theorem dX6_end_56 : decode cX6_end 56 = .ok (.iconst 0, 1) := by decide +kernel
theorem dX6_end_57 : decode cX6_end 57 = .ok (.bastore, 1) := by decide +kernel
theorem dX6_end_58 : decode cX6_end 58 = .ok (.iinc 4 1, 3) := by decide +kernel
theorem dX6_end_61 : decode cX6_end 61 = .ok (.goto (-19), 3) := by decide +kernel
theorem dX6_end_64 : decode cX6_end 64 = .ok (.aload_n 0, 1) := by decide +kernel
theorem dX6_end_65 : decode cX6_end 65 = .ok (.getfield 11, 3) := by decide +kernel
theorem dX6_end_68 : decode cX6_end 68 = .ok (.iload_n 3, 1) := by decide +kernel
theorem dX6_end_69 : decode cX6_end 69 = .ok (.iconst 2, 1) := by decide +kernel
theorem dX6_end_70 : decode cX6_end 70 = .ok (.isub, 1) := by decide +kernel
theorem dX6_end_71 : decode cX6_end 71 = .ok (.aload_n 0, 1) := by decide +kernel
theorem dX6_end_72 : decode cX6_end 72 = .ok (.getfield 22, 3) := by decide +kernel
theorem dX6_end_75 : decode cX6_end 75 = .ok (.iconst 5, 1) := by decide +kernel
theorem dX6_end_76 : decode cX6_end 76 = .ok (.ishr, 1) := by decide +kernel
theorem dX6_end_77 : decode cX6_end 77 = .ok (.i2b, 1) := by decide +kernel
theorem dX6_end_78 : decode cX6_end 78 = .ok (.bastore, 1) := by decide +kernel
theorem dX6_end_79 : decode cX6_end 79 = .ok (.aload_n 0, 1) := by decide +kernel
theorem dX6_end_80 : decode cX6_end 80 = .ok (.getfield 11, 3) := by decide +kernel
theorem dX6_end_83 : decode cX6_end 83 = .ok (.iload_n 3, 1) := by decide +kernel
theorem dX6_end_84 : decode cX6_end 84 = .ok (.iconst 1, 1) := by decide +kernel
theorem dX6_end_85 : decode cX6_end 85 = .ok (.isub, 1) := by decide +kernel
theorem dX6_end_86 : decode cX6_end 86 = .ok (.aload_n 0, 1) := by decide +kernel
theorem dX6_end_87 : decode cX6_end 87 = .ok (.getfield 22, 3) := by decide +kernel
theorem dX6_end_90 : decode cX6_end 90 = .ok (.iconst 3, 1) := by decide +kernel
theorem dX6_end_91 : decode cX6_end 91 = .ok (.ishl, 1) := by decide +kernel
theorem dX6_end_92 : decode cX6_end 92 = .ok (.i2b, 1) := by decide +kernel
theorem dX6_end_93 : decode cX6_end 93 = .ok (.bastore, 1) := by decide +kernel
theorem dX6_end_94 : decode cX6_end 94 = .ok (.getstatic 44, 3) := by decide +kernel
theorem dX6_end_97 : decode cX6_end 97 = .ok (.aload_n 0, 1) := by decide +kernel
theorem dX6_end_98 : decode cX6_end 98 = .ok (.getfield 19, 3) := by decide +kernel
theorem dX6_end_101 : decode cX6_end 101 = .ok (.invokestatic 47, 3) := by decide +kernel
theorem dX6_end_104 : decode cX6_end 104 = .ok (.iconst 0, 1) := by decide +kernel
theorem dX6_end_105 : decode cX6_end 105 = .ok (.istore 4, 2) := by decide +kernel
theorem dX6_end_107 : decode cX6_end 107 = .ok (.iload 4, 2) := by decide +kernel
theorem dX6_end_109 : decode cX6_end 109 = .ok (.iload_n 2, 1) := by decide +kernel
theorem dX6_end_110 : decode cX6_end 110 = .ok (.if_icmp .ge 22, 3) := by decide +kernel
theorem dX6_end_113 : decode cX6_end 113 = .ok (.aload_n 0, 1) := by decide +kernel
theorem dX6_end_114 : decode cX6_end 114 = .ok (.iload 4, 2) := by decide +kernel
theorem dX6_end_116 : decode cX6_end 116 = .ok (.bipush 64, 2) := by decide +kernel
theorem dX6_end_118 : decode cX6_end 118 = .ok (.imul, 1) := by decide +kernel
theorem dX6_end_119 : decode cX6_end 119 = .ok (.invokevirtual 51, 3) := by decide +kernel
theorem dX6_end_122 : decode cX6_end 122 = .ok (.aload_n 0, 1) := by decide +kernel
theorem dX6_end_123 : decode cX6_end 123 = .ok (.invokevirtual 54, 3) := by decide +kernel
theorem dX6_end_126 : decode cX6_end 126 = .ok (.iinc 4 1, 3) := by decide +kernel
theorem dX6_end_129 : decode cX6_end 129 = .ok (.goto (-22), 3) := by decide +kernel
theorem dX6_end_132 : decode cX6_end 132 = .ok (.aload_n 0, 1) := by decide +kernel
theorem dX6_end_133 : decode cX6_end 133 = .ok (.getfield 19, 3) := by decide +kernel
theorem dX6_end_136 : decode cX6_end 136 = .ok (.aload_n 1, 1) := by decide +kernel
theorem dX6_end_137 : decode cX6_end 137 = .ok (.invokestatic 47, 3) := by decide +kernel
theorem dX6_end_140 : decode cX6_end 140 = .ok (.return_, 1) := by decide +kernel
theorem dX6_readSchedule_0 : decode cX6_readSchedule 0 = .ok (.iconst 0, 1) := by decide +kernel
theorem dX6_readSchedule_1 : decode cX6_readSchedule 1 = .ok (.istore_n 2, 1) := by decide +kernel
theorem dX6_readSchedule_2 : decode cX6_readSchedule 2 = .ok (.iload_n 2, 1) := by decide +kernel
theorem dX6_readSchedule_3 : decode cX6_readSchedule 3 = .ok (.bipush 16, 2) := by decide +kernel
theorem dX6_readSchedule_5 : decode cX6_readSchedule 5 = .ok (.if_icmp .ge 79, 3) := by decide +kernel
theorem dX6_readSchedule_8 : decode cX6_readSchedule 8 = .ok (.iload_n 1, 1) := by decide +kernel
theorem dX6_readSchedule_9 : decode cX6_readSchedule 9 = .ok (.iconst 4, 1) := by decide +kernel
theorem dX6_readSchedule_10 : decode cX6_readSchedule 10 = .ok (.iload_n 2, 1) := by decide +kernel
theorem dX6_readSchedule_11 : decode cX6_readSchedule 11 = .ok (.imul, 1) := by decide +kernel
theorem dX6_readSchedule_12 : decode cX6_readSchedule 12 = .ok (.iadd, 1) := by decide +kernel
theorem dX6_readSchedule_13 : decode cX6_readSchedule 13 = .ok (.istore_n 3, 1) := by decide +kernel
theorem dX6_readSchedule_14 : decode cX6_readSchedule 14 = .ok (.aload_n 0, 1) := by decide +kernel
theorem dX6_readSchedule_15 : decode cX6_readSchedule 15 = .ok (.getfield 15, 3) := by decide +kernel
theorem dX6_readSchedule_18 : decode cX6_readSchedule 18 = .ok (.iload_n 2, 1) := by decide +kernel
theorem dX6_readSchedule_19 : decode cX6_readSchedule 19 = .ok (.aload_n 0, 1) := by decide +kernel
theorem dX6_readSchedule_20 : decode cX6_readSchedule 20 = .ok (.getfield 11, 3) := by decide +kernel
theorem dX6_readSchedule_23 : decode cX6_readSchedule 23 = .ok (.iload_n 3, 1) := by decide +kernel
theorem dX6_readSchedule_24 : decode cX6_readSchedule 24 = .ok (.baload, 1) := by decide +kernel
theorem dX6_readSchedule_25 : decode cX6_readSchedule 25 = .ok (.sipush 255, 3) := by decide +kernel
theorem dX6_readSchedule_28 : decode cX6_readSchedule 28 = .ok (.iand, 1) := by decide +kernel
theorem dX6_readSchedule_29 : decode cX6_readSchedule 29 = .ok (.bipush 24, 2) := by decide +kernel
theorem dX6_readSchedule_31 : decode cX6_readSchedule 31 = .ok (.ishl, 1) := by decide +kernel
theorem dX6_readSchedule_32 : decode cX6_readSchedule 32 = .ok (.aload_n 0, 1) := by decide +kernel
theorem dX6_readSchedule_33 : decode cX6_readSchedule 33 = .ok (.getfield 11, 3) := by decide +kernel
theorem dX6_readSchedule_36 : decode cX6_readSchedule 36 = .ok (.iload_n 3, 1) := by decide +kernel
theorem dX6_readSchedule_37 : decode cX6_readSchedule 37 = .ok (.iconst 1, 1) := by decide +kernel
theorem dX6_readSchedule_38 : decode cX6_readSchedule 38 = .ok (.iadd, 1) := by decide +kernel
theorem dX6_readSchedule_39 : decode cX6_readSchedule 39 = .ok (.baload, 1) := by decide +kernel
theorem dX6_readSchedule_40 : decode cX6_readSchedule 40 = .ok (.sipush 255, 3) := by decide +kernel
theorem dX6_readSchedule_43 : decode cX6_readSchedule 43 = .ok (.iand, 1) := by decide +kernel
theorem dX6_readSchedule_44 : decode cX6_readSchedule 44 = .ok (.bipush 16, 2) := by decide +kernel
theorem dX6_readSchedule_46 : decode cX6_readSchedule 46 = .ok (.ishl, 1) := by decide +kernel
theorem dX6_readSchedule_47 : decode cX6_readSchedule 47 = .ok (.ior, 1) := by decide +kernel
theorem dX6_readSchedule_48 : decode cX6_readSchedule 48 = .ok (.aload_n 0, 1) := by decide +kernel
theorem dX6_readSchedule_49 : decode cX6_readSchedule 49 = .ok (.getfield 11, 3) := by decide +kernel
theorem dX6_readSchedule_52 : decode cX6_readSchedule 52 = .ok (.iload_n 3, 1) := by decide +kernel
theorem dX6_readSchedule_53 : decode cX6_readSchedule 53 = .ok (.iconst 2, 1) := by decide +kernel
theorem dX6_readSchedule_54 : decode cX6_readSchedule 54 = .ok (.iadd, 1) := by decide +kernel
theorem dX6_readSchedule_55 : decode cX6_readSchedule 55 = .ok (.baload, 1) := by decide +kernel
theorem dX6_readSchedule_56 : decode cX6_readSchedule 56 = .ok (.sipush 255, 3) := by decide +kernel
theorem dX6_readSchedule_59 : decode cX6_readSchedule 59 = .ok (.iand, 1) := by decide +kernel
theorem dX6_readSchedule_60 : decode cX6_readSchedule 60 = .ok (.bipush 8, 2) := by decide +kernel
theorem dX6_readSchedule_62 : decode cX6_readSchedule 62 = .ok (.ishl, 1) := by decide +kernel
theorem dX6_readSchedule_63 : decode cX6_readSchedule 63 = .ok (.ior, 1) := by decide +kernel
theorem dX6_readSchedule_64 : decode cX6_readSchedule 64 = .ok (.aload_n 0, 1) := by decide +kernel
theorem dX6_readSchedule_65 : decode cX6_readSchedule 65 = .ok (.getfield 11, 3) := by decide +kernel
theorem dX6_readSchedule_68 : decode cX6_readSchedule 68 = .ok (.iload_n 3, 1) := by decide +kernel
theorem dX6_readSchedule_69 : decode cX6_readSchedule 69 = .ok (.iconst 3, 1) := by decide +kernel
theorem dX6_readSchedule_70 : decode cX6_readSchedule 70 = .ok (.iadd, 1) := by decide +kernel
theorem dX6_readSchedule_71 : decode cX6_readSchedule 71 = .ok (.baload, 1) := by decide +kernel
theorem dX6_readSchedule_72 : decode cX6_readSchedule 72 = .ok (.sipush 255, 3) := by decide +kernel
theorem dX6_readSchedule_75 : decode cX6_readSchedule 75 = .ok (.iand, 1) := by decide +kernel
theorem dX6_readSchedule_76 : decode cX6_readSchedule 76 = .ok (.ior, 1) := by decide +kernel
theorem dX6_readSchedule_77 : decode cX6_readSchedule 77 = .ok (.iastore, 1) := by decide +kernel
theorem dX6_readSchedule_78 : decode cX6_readSchedule 78 = .ok (.iinc 2 1, 3) := by decide +kernel
theorem dX6_readSchedule_81 : decode cX6_readSchedule 81 = .ok (.goto (-79), 3) := by decide +kernel
theorem dX6_readSchedule_84 : decode cX6_readSchedule 84 = .ok (.bipush 16, 2) := by decide +kernel
theorem dX6_readSchedule_86 : decode cX6_readSchedule 86 = .ok (.istore_n 2, 1) := by decide +kernel
theorem dX6_readSchedule_87 : decode cX6_readSchedule 87 = .ok (.iload_n 2, 1) := by decide +kernel
theorem dX6_readSchedule_88 : decode cX6_readSchedule 88 = .ok (.bipush 64, 2) := by decide +kernel
theorem dX6_readSchedule_90 : decode cX6_readSchedule 90 = .ok (.if_icmp .ge 108, 3) := by decide +kernel
theorem dX6_readSchedule_93 : decode cX6_readSchedule 93 = .ok (.aload_n 0, 1) := by decide +kernel
theorem dX6_readSchedule_94 : decode cX6_readSchedule 94 = .ok (.getfield 15, 3) := by decide +kernel
theorem dX6_readSchedule_97 : decode cX6_readSchedule 97 = .ok (.iload_n 2, 1) := by decide +kernel
theorem dX6_readSchedule_98 : decode cX6_readSchedule 98 = .ok (.bipush 15, 2) := by decide +kernel
theorem dX6_readSchedule_100 : decode cX6_readSchedule 100 = .ok (.isub, 1) := by decide +kernel
theorem dX6_readSchedule_101 : decode cX6_readSchedule 101 = .ok (.iaload, 1) := by decide +kernel
theorem dX6_readSchedule_102 : decode cX6_readSchedule 102 = .ok (.istore_n 3, 1) := by decide +kernel
theorem dX6_readSchedule_103 : decode cX6_readSchedule 103 = .ok (.aload_n 0, 1) := by decide +kernel
theorem dX6_readSchedule_104 : decode cX6_readSchedule 104 = .ok (.getfield 15, 3) := by decide +kernel
theorem dX6_readSchedule_107 : decode cX6_readSchedule 107 = .ok (.iload_n 2, 1) := by decide +kernel
theorem dX6_readSchedule_108 : decode cX6_readSchedule 108 = .ok (.iconst 2, 1) := by decide +kernel
theorem dX6_readSchedule_109 : decode cX6_readSchedule 109 = .ok (.isub, 1) := by decide +kernel
theorem dX6_readSchedule_110 : decode cX6_readSchedule 110 = .ok (.iaload, 1) := by decide +kernel
theorem dX6_readSchedule_111 : decode cX6_readSchedule 111 = .ok (.istore 4, 2) := by decide +kernel
theorem dX6_readSchedule_113 : decode cX6_readSchedule 113 = .ok (.aload_n 0, 1) := by decide +kernel
theorem dX6_readSchedule_114 : decode cX6_readSchedule 114 = .ok (.getfield 15, 3) := by decide +kernel
theorem dX6_readSchedule_117 : decode cX6_readSchedule 117 = .ok (.iload_n 2, 1) := by decide +kernel
theorem dX6_readSchedule_118 : decode cX6_readSchedule 118 = .ok (.aload_n 0, 1) := by decide +kernel
theorem dX6_readSchedule_119 : decode cX6_readSchedule 119 = .ok (.getfield 15, 3) := by decide +kernel
theorem dX6_readSchedule_122 : decode cX6_readSchedule 122 = .ok (.iload_n 2, 1) := by decide +kernel
theorem dX6_readSchedule_123 : decode cX6_readSchedule 123 = .ok (.bipush 16, 2) := by decide +kernel
theorem dX6_readSchedule_125 : decode cX6_readSchedule 125 = .ok (.isub, 1) := by decide +kernel
theorem dX6_readSchedule_126 : decode cX6_readSchedule 126 = .ok (.iaload, 1) := by decide +kernel
theorem dX6_readSchedule_127 : decode cX6_readSchedule 127 = .ok (.aload_n 0, 1) := by decide +kernel
theorem dX6_readSchedule_128 : decode cX6_readSchedule 128 = .ok (.getfield 15, 3) := by decide +kernel
theorem dX6_readSchedule_131 : decode cX6_readSchedule 131 = .ok (.iload_n 2, 1) := by decide +kernel
theorem dX6_readSchedule_132 : decode cX6_readSchedule 132 = .ok (.bipush 7, 2) := by decide +kernel
theorem dX6_readSchedule_134 : decode cX6_readSchedule 134 = .ok (.isub, 1) := by decide +kernel
theorem dX6_readSchedule_135 : decode cX6_readSchedule 135 = .ok (.iaload, 1) := by decide +kernel
theorem dX6_readSchedule_136 : decode cX6_readSchedule 136 = .ok (.iadd, 1) := by decide +kernel
theorem dX6_readSchedule_137 : decode cX6_readSchedule 137 = .ok (.iload_n 3, 1) := by decide +kernel
theorem dX6_readSchedule_138 : decode cX6_readSchedule 138 = .ok (.bipush 7, 2) := by decide +kernel
theorem dX6_readSchedule_140 : decode cX6_readSchedule 140 = .ok (.iushr, 1) := by decide +kernel
theorem dX6_readSchedule_141 : decode cX6_readSchedule 141 = .ok (.iload_n 3, 1) := by decide +kernel
theorem dX6_readSchedule_142 : decode cX6_readSchedule 142 = .ok (.bipush 25, 2) := by decide +kernel
theorem dX6_readSchedule_144 : decode cX6_readSchedule 144 = .ok (.ishl, 1) := by decide +kernel
theorem dX6_readSchedule_145 : decode cX6_readSchedule 145 = .ok (.ior, 1) := by decide +kernel
theorem dX6_readSchedule_146 : decode cX6_readSchedule 146 = .ok (.iload_n 3, 1) := by decide +kernel
theorem dX6_readSchedule_147 : decode cX6_readSchedule 147 = .ok (.bipush 18, 2) := by decide +kernel
theorem dX6_readSchedule_149 : decode cX6_readSchedule 149 = .ok (.iushr, 1) := by decide +kernel
theorem dX6_readSchedule_150 : decode cX6_readSchedule 150 = .ok (.iload_n 3, 1) := by decide +kernel
theorem dX6_readSchedule_151 : decode cX6_readSchedule 151 = .ok (.bipush 14, 2) := by decide +kernel
theorem dX6_readSchedule_153 : decode cX6_readSchedule 153 = .ok (.ishl, 1) := by decide +kernel
theorem dX6_readSchedule_154 : decode cX6_readSchedule 154 = .ok (.ior, 1) := by decide +kernel
theorem dX6_readSchedule_155 : decode cX6_readSchedule 155 = .ok (.ixor, 1) := by decide +kernel
theorem dX6_readSchedule_156 : decode cX6_readSchedule 156 = .ok (.iload_n 3, 1) := by decide +kernel
theorem dX6_readSchedule_157 : decode cX6_readSchedule 157 = .ok (.iconst 3, 1) := by decide +kernel
theorem dX6_readSchedule_158 : decode cX6_readSchedule 158 = .ok (.iushr, 1) := by decide +kernel
theorem dX6_readSchedule_159 : decode cX6_readSchedule 159 = .ok (.ixor, 1) := by decide +kernel
theorem dX6_readSchedule_160 : decode cX6_readSchedule 160 = .ok (.iadd, 1) := by decide +kernel
theorem dX6_readSchedule_161 : decode cX6_readSchedule 161 = .ok (.iload 4, 2) := by decide +kernel
theorem dX6_readSchedule_163 : decode cX6_readSchedule 163 = .ok (.bipush 17, 2) := by decide +kernel
theorem dX6_readSchedule_165 : decode cX6_readSchedule 165 = .ok (.iushr, 1) := by decide +kernel
theorem dX6_readSchedule_166 : decode cX6_readSchedule 166 = .ok (.iload 4, 2) := by decide +kernel
theorem dX6_readSchedule_168 : decode cX6_readSchedule 168 = .ok (.bipush 15, 2) := by decide +kernel
theorem dX6_readSchedule_170 : decode cX6_readSchedule 170 = .ok (.ishl, 1) := by decide +kernel
theorem dX6_readSchedule_171 : decode cX6_readSchedule 171 = .ok (.ior, 1) := by decide +kernel
theorem dX6_readSchedule_172 : decode cX6_readSchedule 172 = .ok (.iload 4, 2) := by decide +kernel
theorem dX6_readSchedule_174 : decode cX6_readSchedule 174 = .ok (.bipush 19, 2) := by decide +kernel
theorem dX6_readSchedule_176 : decode cX6_readSchedule 176 = .ok (.iushr, 1) := by decide +kernel
theorem dX6_readSchedule_177 : decode cX6_readSchedule 177 = .ok (.iload 4, 2) := by decide +kernel
theorem dX6_readSchedule_179 : decode cX6_readSchedule 179 = .ok (.bipush 13, 2) := by decide +kernel
theorem dX6_readSchedule_181 : decode cX6_readSchedule 181 = .ok (.ishl, 1) := by decide +kernel
theorem dX6_readSchedule_182 : decode cX6_readSchedule 182 = .ok (.ior, 1) := by decide +kernel
theorem dX6_readSchedule_183 : decode cX6_readSchedule 183 = .ok (.ixor, 1) := by decide +kernel
theorem dX6_readSchedule_184 : decode cX6_readSchedule 184 = .ok (.iload 4, 2) := by decide +kernel
theorem dX6_readSchedule_186 : decode cX6_readSchedule 186 = .ok (.bipush 10, 2) := by decide +kernel
theorem dX6_readSchedule_188 : decode cX6_readSchedule 188 = .ok (.iushr, 1) := by decide +kernel
theorem dX6_readSchedule_189 : decode cX6_readSchedule 189 = .ok (.ixor, 1) := by decide +kernel
theorem dX6_readSchedule_190 : decode cX6_readSchedule 190 = .ok (.iadd, 1) := by decide +kernel
theorem dX6_readSchedule_191 : decode cX6_readSchedule 191 = .ok (.iastore, 1) := by decide +kernel
theorem dX6_readSchedule_192 : decode cX6_readSchedule 192 = .ok (.iinc 2 1, 3) := by decide +kernel
theorem dX6_readSchedule_195 : decode cX6_readSchedule 195 = .ok (.goto (-108), 3) := by decide +kernel
theorem dX6_readSchedule_198 : decode cX6_readSchedule 198 = .ok (.return_, 1) := by decide +kernel
theorem dX6_mix_0 : decode cX6_mix 0 = .ok (.aload_n 0, 1) := by decide +kernel
theorem dX6_mix_1 : decode cX6_mix 1 = .ok (.getfield 19, 3) := by decide +kernel
theorem dX6_mix_4 : decode cX6_mix 4 = .ok (.iconst 0, 1) := by decide +kernel
theorem dX6_mix_5 : decode cX6_mix 5 = .ok (.iaload, 1) := by decide +kernel
theorem dX6_mix_6 : decode cX6_mix 6 = .ok (.istore_n 1, 1) := by decide +kernel
theorem dX6_mix_7 : decode cX6_mix 7 = .ok (.aload_n 0, 1) := by decide +kernel
theorem dX6_mix_8 : decode cX6_mix 8 = .ok (.getfield 19, 3) := by decide +kernel
theorem dX6_mix_11 : decode cX6_mix 11 = .ok (.iconst 1, 1) := by decide +kernel
theorem dX6_mix_12 : decode cX6_mix 12 = .ok (.iaload, 1) := by decide +kernel
theorem dX6_mix_13 : decode cX6_mix 13 = .ok (.istore_n 2, 1) := by decide +kernel
theorem dX6_mix_14 : decode cX6_mix 14 = .ok (.aload_n 0, 1) := by decide +kernel
theorem dX6_mix_15 : decode cX6_mix 15 = .ok (.getfield 19, 3) := by decide +kernel
theorem dX6_mix_18 : decode cX6_mix 18 = .ok (.iconst 2, 1) := by decide +kernel
theorem dX6_mix_19 : decode cX6_mix 19 = .ok (.iaload, 1) := by decide +kernel
theorem dX6_mix_20 : decode cX6_mix 20 = .ok (.istore_n 3, 1) := by decide +kernel
theorem dX6_mix_21 : decode cX6_mix 21 = .ok (.aload_n 0, 1) := by decide +kernel
theorem dX6_mix_22 : decode cX6_mix 22 = .ok (.getfield 19, 3) := by decide +kernel
theorem dX6_mix_25 : decode cX6_mix 25 = .ok (.iconst 3, 1) := by decide +kernel
theorem dX6_mix_26 : decode cX6_mix 26 = .ok (.iaload, 1) := by decide +kernel
theorem dX6_mix_27 : decode cX6_mix 27 = .ok (.istore 4, 2) := by decide +kernel
theorem dX6_mix_29 : decode cX6_mix 29 = .ok (.aload_n 0, 1) := by decide +kernel
theorem dX6_mix_30 : decode cX6_mix 30 = .ok (.getfield 19, 3) := by decide +kernel
theorem dX6_mix_33 : decode cX6_mix 33 = .ok (.iconst 4, 1) := by decide +kernel
theorem dX6_mix_34 : decode cX6_mix 34 = .ok (.iaload, 1) := by decide +kernel
theorem dX6_mix_35 : decode cX6_mix 35 = .ok (.istore 5, 2) := by decide +kernel
theorem dX6_mix_37 : decode cX6_mix 37 = .ok (.aload_n 0, 1) := by decide +kernel
theorem dX6_mix_38 : decode cX6_mix 38 = .ok (.getfield 19, 3) := by decide +kernel
theorem dX6_mix_41 : decode cX6_mix 41 = .ok (.iconst 5, 1) := by decide +kernel
theorem dX6_mix_42 : decode cX6_mix 42 = .ok (.iaload, 1) := by decide +kernel
theorem dX6_mix_43 : decode cX6_mix 43 = .ok (.istore 6, 2) := by decide +kernel
theorem dX6_mix_45 : decode cX6_mix 45 = .ok (.aload_n 0, 1) := by decide +kernel
theorem dX6_mix_46 : decode cX6_mix 46 = .ok (.getfield 19, 3) := by decide +kernel
theorem dX6_mix_49 : decode cX6_mix 49 = .ok (.bipush 6, 2) := by decide +kernel
theorem dX6_mix_51 : decode cX6_mix 51 = .ok (.iaload, 1) := by decide +kernel
theorem dX6_mix_52 : decode cX6_mix 52 = .ok (.istore 7, 2) := by decide +kernel
theorem dX6_mix_54 : decode cX6_mix 54 = .ok (.aload_n 0, 1) := by decide +kernel
theorem dX6_mix_55 : decode cX6_mix 55 = .ok (.getfield 19, 3) := by decide +kernel
theorem dX6_mix_58 : decode cX6_mix 58 = .ok (.bipush 7, 2) := by decide +kernel
theorem dX6_mix_60 : decode cX6_mix 60 = .ok (.iaload, 1) := by decide +kernel
theorem dX6_mix_61 : decode cX6_mix 61 = .ok (.istore 8, 2) := by decide +kernel
theorem dX6_mix_63 : decode cX6_mix 63 = .ok (.iconst 0, 1) := by decide +kernel
theorem dX6_mix_64 : decode cX6_mix 64 = .ok (.istore 9, 2) := by decide +kernel
theorem dX6_mix_66 : decode cX6_mix 66 = .ok (.iload 9, 2) := by decide +kernel
theorem dX6_mix_68 : decode cX6_mix 68 = .ok (.bipush 64, 2) := by decide +kernel
theorem dX6_mix_70 : decode cX6_mix 70 = .ok (.if_icmp .ge 152, 3) := by decide +kernel
theorem dX6_mix_73 : decode cX6_mix 73 = .ok (.iload 8, 2) := by decide +kernel
theorem dX6_mix_75 : decode cX6_mix 75 = .ok (.iload 5, 2) := by decide +kernel
theorem dX6_mix_77 : decode cX6_mix 77 = .ok (.bipush 6, 2) := by decide +kernel
theorem dX6_mix_79 : decode cX6_mix 79 = .ok (.iushr, 1) := by decide +kernel
theorem dX6_mix_80 : decode cX6_mix 80 = .ok (.iload 5, 2) := by decide +kernel
theorem dX6_mix_82 : decode cX6_mix 82 = .ok (.bipush 26, 2) := by decide +kernel
theorem dX6_mix_84 : decode cX6_mix 84 = .ok (.ishl, 1) := by decide +kernel
theorem dX6_mix_85 : decode cX6_mix 85 = .ok (.ior, 1) := by decide +kernel
theorem dX6_mix_86 : decode cX6_mix 86 = .ok (.iload 5, 2) := by decide +kernel
theorem dX6_mix_88 : decode cX6_mix 88 = .ok (.bipush 11, 2) := by decide +kernel
theorem dX6_mix_90 : decode cX6_mix 90 = .ok (.iushr, 1) := by decide +kernel
theorem dX6_mix_91 : decode cX6_mix 91 = .ok (.iload 5, 2) := by decide +kernel
theorem dX6_mix_93 : decode cX6_mix 93 = .ok (.bipush 21, 2) := by decide +kernel
theorem dX6_mix_95 : decode cX6_mix 95 = .ok (.ishl, 1) := by decide +kernel
theorem dX6_mix_96 : decode cX6_mix 96 = .ok (.ior, 1) := by decide +kernel
theorem dX6_mix_97 : decode cX6_mix 97 = .ok (.ixor, 1) := by decide +kernel
theorem dX6_mix_98 : decode cX6_mix 98 = .ok (.iload 5, 2) := by decide +kernel
theorem dX6_mix_100 : decode cX6_mix 100 = .ok (.bipush 25, 2) := by decide +kernel
theorem dX6_mix_102 : decode cX6_mix 102 = .ok (.iushr, 1) := by decide +kernel
theorem dX6_mix_103 : decode cX6_mix 103 = .ok (.iload 5, 2) := by decide +kernel
theorem dX6_mix_105 : decode cX6_mix 105 = .ok (.bipush 7, 2) := by decide +kernel
theorem dX6_mix_107 : decode cX6_mix 107 = .ok (.ishl, 1) := by decide +kernel
theorem dX6_mix_108 : decode cX6_mix 108 = .ok (.ior, 1) := by decide +kernel
theorem dX6_mix_109 : decode cX6_mix 109 = .ok (.ixor, 1) := by decide +kernel
theorem dX6_mix_110 : decode cX6_mix 110 = .ok (.iadd, 1) := by decide +kernel
theorem dX6_mix_111 : decode cX6_mix 111 = .ok (.iload 5, 2) := by decide +kernel
theorem dX6_mix_113 : decode cX6_mix 113 = .ok (.iload 6, 2) := by decide +kernel
theorem dX6_mix_115 : decode cX6_mix 115 = .ok (.iand, 1) := by decide +kernel
theorem dX6_mix_116 : decode cX6_mix 116 = .ok (.iload 5, 2) := by decide +kernel
theorem dX6_mix_118 : decode cX6_mix 118 = .ok (.iconst (-1), 1) := by decide +kernel
theorem dX6_mix_119 : decode cX6_mix 119 = .ok (.ixor, 1) := by decide +kernel
theorem dX6_mix_120 : decode cX6_mix 120 = .ok (.iload 7, 2) := by decide +kernel
theorem dX6_mix_122 : decode cX6_mix 122 = .ok (.iand, 1) := by decide +kernel
theorem dX6_mix_123 : decode cX6_mix 123 = .ok (.ixor, 1) := by decide +kernel
theorem dX6_mix_124 : decode cX6_mix 124 = .ok (.iadd, 1) := by decide +kernel
theorem dX6_mix_125 : decode cX6_mix 125 = .ok (.getstatic 57, 3) := by decide +kernel
theorem dX6_mix_128 : decode cX6_mix 128 = .ok (.iload 9, 2) := by decide +kernel
theorem dX6_mix_130 : decode cX6_mix 130 = .ok (.iaload, 1) := by decide +kernel
theorem dX6_mix_131 : decode cX6_mix 131 = .ok (.iadd, 1) := by decide +kernel
theorem dX6_mix_132 : decode cX6_mix 132 = .ok (.aload_n 0, 1) := by decide +kernel
theorem dX6_mix_133 : decode cX6_mix 133 = .ok (.getfield 15, 3) := by decide +kernel
theorem dX6_mix_136 : decode cX6_mix 136 = .ok (.iload 9, 2) := by decide +kernel
theorem dX6_mix_138 : decode cX6_mix 138 = .ok (.iaload, 1) := by decide +kernel
theorem dX6_mix_139 : decode cX6_mix 139 = .ok (.iadd, 1) := by decide +kernel
theorem dX6_mix_140 : decode cX6_mix 140 = .ok (.istore 10, 2) := by decide +kernel
theorem dX6_mix_142 : decode cX6_mix 142 = .ok (.iload_n 1, 1) := by decide +kernel
theorem dX6_mix_143 : decode cX6_mix 143 = .ok (.iconst 2, 1) := by decide +kernel
theorem dX6_mix_144 : decode cX6_mix 144 = .ok (.iushr, 1) := by decide +kernel
theorem dX6_mix_145 : decode cX6_mix 145 = .ok (.iload_n 1, 1) := by decide +kernel
theorem dX6_mix_146 : decode cX6_mix 146 = .ok (.bipush 30, 2) := by decide +kernel
theorem dX6_mix_148 : decode cX6_mix 148 = .ok (.ishl, 1) := by decide +kernel
theorem dX6_mix_149 : decode cX6_mix 149 = .ok (.ior, 1) := by decide +kernel
theorem dX6_mix_150 : decode cX6_mix 150 = .ok (.iload_n 1, 1) := by decide +kernel
theorem dX6_mix_151 : decode cX6_mix 151 = .ok (.bipush 13, 2) := by decide +kernel
theorem dX6_mix_153 : decode cX6_mix 153 = .ok (.iushr, 1) := by decide +kernel
theorem dX6_mix_154 : decode cX6_mix 154 = .ok (.iload_n 1, 1) := by decide +kernel
theorem dX6_mix_155 : decode cX6_mix 155 = .ok (.bipush 19, 2) := by decide +kernel
theorem dX6_mix_157 : decode cX6_mix 157 = .ok (.ishl, 1) := by decide +kernel
theorem dX6_mix_158 : decode cX6_mix 158 = .ok (.ior, 1) := by decide +kernel
theorem dX6_mix_159 : decode cX6_mix 159 = .ok (.ixor, 1) := by decide +kernel
theorem dX6_mix_160 : decode cX6_mix 160 = .ok (.iload_n 1, 1) := by decide +kernel
theorem dX6_mix_161 : decode cX6_mix 161 = .ok (.bipush 22, 2) := by decide +kernel
theorem dX6_mix_163 : decode cX6_mix 163 = .ok (.iushr, 1) := by decide +kernel
theorem dX6_mix_164 : decode cX6_mix 164 = .ok (.iload_n 1, 1) := by decide +kernel
theorem dX6_mix_165 : decode cX6_mix 165 = .ok (.bipush 10, 2) := by decide +kernel
theorem dX6_mix_167 : decode cX6_mix 167 = .ok (.ishl, 1) := by decide +kernel
theorem dX6_mix_168 : decode cX6_mix 168 = .ok (.ior, 1) := by decide +kernel
theorem dX6_mix_169 : decode cX6_mix 169 = .ok (.ixor, 1) := by decide +kernel
theorem dX6_mix_170 : decode cX6_mix 170 = .ok (.iload_n 1, 1) := by decide +kernel
theorem dX6_mix_171 : decode cX6_mix 171 = .ok (.iload_n 2, 1) := by decide +kernel
theorem dX6_mix_172 : decode cX6_mix 172 = .ok (.iand, 1) := by decide +kernel
theorem dX6_mix_173 : decode cX6_mix 173 = .ok (.iload_n 1, 1) := by decide +kernel
theorem dX6_mix_174 : decode cX6_mix 174 = .ok (.iload_n 3, 1) := by decide +kernel
theorem dX6_mix_175 : decode cX6_mix 175 = .ok (.iand, 1) := by decide +kernel
theorem dX6_mix_176 : decode cX6_mix 176 = .ok (.ixor, 1) := by decide +kernel
theorem dX6_mix_177 : decode cX6_mix 177 = .ok (.iload_n 2, 1) := by decide +kernel
theorem dX6_mix_178 : decode cX6_mix 178 = .ok (.iload_n 3, 1) := by decide +kernel
theorem dX6_mix_179 : decode cX6_mix 179 = .ok (.iand, 1) := by decide +kernel
theorem dX6_mix_180 : decode cX6_mix 180 = .ok (.ixor, 1) := by decide +kernel
theorem dX6_mix_181 : decode cX6_mix 181 = .ok (.iadd, 1) := by decide +kernel
theorem dX6_mix_182 : decode cX6_mix 182 = .ok (.istore 11, 2) := by decide +kernel
theorem dX6_mix_184 : decode cX6_mix 184 = .ok (.iload 7, 2) := by decide +kernel
theorem dX6_mix_186 : decode cX6_mix 186 = .ok (.istore 8, 2) := by decide +kernel
theorem dX6_mix_188 : decode cX6_mix 188 = .ok (.iload 6, 2) := by decide +kernel
theorem dX6_mix_190 : decode cX6_mix 190 = .ok (.istore 7, 2) := by decide +kernel
theorem dX6_mix_192 : decode cX6_mix 192 = .ok (.iload 5, 2) := by decide +kernel
theorem dX6_mix_194 : decode cX6_mix 194 = .ok (.istore 6, 2) := by decide +kernel
theorem dX6_mix_196 : decode cX6_mix 196 = .ok (.iload 4, 2) := by decide +kernel
theorem dX6_mix_198 : decode cX6_mix 198 = .ok (.iload 10, 2) := by decide +kernel
theorem dX6_mix_200 : decode cX6_mix 200 = .ok (.iadd, 1) := by decide +kernel
theorem dX6_mix_201 : decode cX6_mix 201 = .ok (.istore 5, 2) := by decide +kernel
theorem dX6_mix_203 : decode cX6_mix 203 = .ok (.iload_n 3, 1) := by decide +kernel
theorem dX6_mix_204 : decode cX6_mix 204 = .ok (.istore 4, 2) := by decide +kernel
theorem dX6_mix_206 : decode cX6_mix 206 = .ok (.iload_n 2, 1) := by decide +kernel
theorem dX6_mix_207 : decode cX6_mix 207 = .ok (.istore_n 3, 1) := by decide +kernel
theorem dX6_mix_208 : decode cX6_mix 208 = .ok (.iload_n 1, 1) := by decide +kernel
theorem dX6_mix_209 : decode cX6_mix 209 = .ok (.istore_n 2, 1) := by decide +kernel
theorem dX6_mix_210 : decode cX6_mix 210 = .ok (.iload 10, 2) := by decide +kernel
theorem dX6_mix_212 : decode cX6_mix 212 = .ok (.iload 11, 2) := by decide +kernel
theorem dX6_mix_214 : decode cX6_mix 214 = .ok (.iadd, 1) := by decide +kernel
theorem dX6_mix_215 : decode cX6_mix 215 = .ok (.istore_n 1, 1) := by decide +kernel
theorem dX6_mix_216 : decode cX6_mix 216 = .ok (.iinc 9 1, 3) := by decide +kernel
theorem dX6_mix_219 : decode cX6_mix 219 = .ok (.goto (-153), 3) := by decide +kernel
theorem dX6_mix_222 : decode cX6_mix 222 = .ok (.aload_n 0, 1) := by decide +kernel
theorem dX6_mix_223 : decode cX6_mix 223 = .ok (.getfield 19, 3) := by decide +kernel
theorem dX6_mix_226 : decode cX6_mix 226 = .ok (.iconst 0, 1) := by decide +kernel
theorem dX6_mix_227 : decode cX6_mix 227 = .ok (.dup2, 1) := by decide +kernel
theorem dX6_mix_228 : decode cX6_mix 228 = .ok (.iaload, 1) := by decide +kernel
theorem dX6_mix_229 : decode cX6_mix 229 = .ok (.iload_n 1, 1) := by decide +kernel
theorem dX6_mix_230 : decode cX6_mix 230 = .ok (.iadd, 1) := by decide +kernel
theorem dX6_mix_231 : decode cX6_mix 231 = .ok (.iastore, 1) := by decide +kernel
theorem dX6_mix_232 : decode cX6_mix 232 = .ok (.aload_n 0, 1) := by decide +kernel
theorem dX6_mix_233 : decode cX6_mix 233 = .ok (.getfield 19, 3) := by decide +kernel
theorem dX6_mix_236 : decode cX6_mix 236 = .ok (.iconst 1, 1) := by decide +kernel
theorem dX6_mix_237 : decode cX6_mix 237 = .ok (.dup2, 1) := by decide +kernel
theorem dX6_mix_238 : decode cX6_mix 238 = .ok (.iaload, 1) := by decide +kernel
theorem dX6_mix_239 : decode cX6_mix 239 = .ok (.iload_n 2, 1) := by decide +kernel
theorem dX6_mix_240 : decode cX6_mix 240 = .ok (.iadd, 1) := by decide +kernel
theorem dX6_mix_241 : decode cX6_mix 241 = .ok (.iastore, 1) := by decide +kernel
theorem dX6_mix_242 : decode cX6_mix 242 = .ok (.aload_n 0, 1) := by decide +kernel
theorem dX6_mix_243 : decode cX6_mix 243 = .ok (.getfield 19, 3) := by decide +kernel
theorem dX6_mix_246 : decode cX6_mix 246 = .ok (.iconst 2, 1) := by decide +kernel
theorem dX6_mix_247 : decode cX6_mix 247 = .ok (.dup2, 1) := by decide +kernel
theorem dX6_mix_248 : decode cX6_mix 248 = .ok (.iaload, 1) := by decide +kernel
theorem dX6_mix_249 : decode cX6_mix 249 = .ok (.iload_n 3, 1) := by decide +kernel
theorem dX6_mix_250 : decode cX6_mix 250 = .ok (.iadd, 1) := by decide +kernel
theorem dX6_mix_251 : decode cX6_mix 251 = .ok (.iastore, 1) := by decide +kernel
theorem dX6_mix_252 : decode cX6_mix 252 = .ok (.aload_n 0, 1) := by decide +kernel
theorem dX6_mix_253 : decode cX6_mix 253 = .ok (.getfield 19, 3) := by decide +kernel
theorem dX6_mix_256 : decode cX6_mix 256 = .ok (.iconst 3, 1) := by decide +kernel
theorem dX6_mix_257 : decode cX6_mix 257 = .ok (.dup2, 1) := by decide +kernel
theorem dX6_mix_258 : decode cX6_mix 258 = .ok (.iaload, 1) := by decide +kernel
theorem dX6_mix_259 : decode cX6_mix 259 = .ok (.iload 4, 2) := by decide +kernel
theorem dX6_mix_261 : decode cX6_mix 261 = .ok (.iadd, 1) := by decide +kernel
theorem dX6_mix_262 : decode cX6_mix 262 = .ok (.iastore, 1) := by decide +kernel
theorem dX6_mix_263 : decode cX6_mix 263 = .ok (.aload_n 0, 1) := by decide +kernel
theorem dX6_mix_264 : decode cX6_mix 264 = .ok (.getfield 19, 3) := by decide +kernel
theorem dX6_mix_267 : decode cX6_mix 267 = .ok (.iconst 4, 1) := by decide +kernel
theorem dX6_mix_268 : decode cX6_mix 268 = .ok (.dup2, 1) := by decide +kernel
theorem dX6_mix_269 : decode cX6_mix 269 = .ok (.iaload, 1) := by decide +kernel
theorem dX6_mix_270 : decode cX6_mix 270 = .ok (.iload 5, 2) := by decide +kernel
theorem dX6_mix_272 : decode cX6_mix 272 = .ok (.iadd, 1) := by decide +kernel
theorem dX6_mix_273 : decode cX6_mix 273 = .ok (.iastore, 1) := by decide +kernel
theorem dX6_mix_274 : decode cX6_mix 274 = .ok (.aload_n 0, 1) := by decide +kernel
theorem dX6_mix_275 : decode cX6_mix 275 = .ok (.getfield 19, 3) := by decide +kernel
theorem dX6_mix_278 : decode cX6_mix 278 = .ok (.iconst 5, 1) := by decide +kernel
theorem dX6_mix_279 : decode cX6_mix 279 = .ok (.dup2, 1) := by decide +kernel
theorem dX6_mix_280 : decode cX6_mix 280 = .ok (.iaload, 1) := by decide +kernel
theorem dX6_mix_281 : decode cX6_mix 281 = .ok (.iload 6, 2) := by decide +kernel
theorem dX6_mix_283 : decode cX6_mix 283 = .ok (.iadd, 1) := by decide +kernel
theorem dX6_mix_284 : decode cX6_mix 284 = .ok (.iastore, 1) := by decide +kernel
theorem dX6_mix_285 : decode cX6_mix 285 = .ok (.aload_n 0, 1) := by decide +kernel
theorem dX6_mix_286 : decode cX6_mix 286 = .ok (.getfield 19, 3) := by decide +kernel
theorem dX6_mix_289 : decode cX6_mix 289 = .ok (.bipush 6, 2) := by decide +kernel
theorem dX6_mix_291 : decode cX6_mix 291 = .ok (.dup2, 1) := by decide +kernel
theorem dX6_mix_292 : decode cX6_mix 292 = .ok (.iaload, 1) := by decide +kernel
theorem dX6_mix_293 : decode cX6_mix 293 = .ok (.iload 7, 2) := by decide +kernel
theorem dX6_mix_295 : decode cX6_mix 295 = .ok (.iadd, 1) := by decide +kernel
theorem dX6_mix_296 : decode cX6_mix 296 = .ok (.iastore, 1) := by decide +kernel
theorem dX6_mix_297 : decode cX6_mix 297 = .ok (.aload_n 0, 1) := by decide +kernel
theorem dX6_mix_298 : decode cX6_mix 298 = .ok (.getfield 19, 3) := by decide +kernel
theorem dX6_mix_301 : decode cX6_mix 301 = .ok (.bipush 7, 2) := by decide +kernel
theorem dX6_mix_303 : decode cX6_mix 303 = .ok (.dup2, 1) := by decide +kernel
theorem dX6_mix_304 : decode cX6_mix 304 = .ok (.iaload, 1) := by decide +kernel
theorem dX6_mix_305 : decode cX6_mix 305 = .ok (.iload 8, 2) := by decide +kernel
theorem dX6_mix_307 : decode cX6_mix 307 = .ok (.iadd, 1) := by decide +kernel
theorem dX6_mix_308 : decode cX6_mix 308 = .ok (.iastore, 1) := by decide +kernel
theorem dX6_mix_309 : decode cX6_mix 309 = .ok (.return_, 1) := by decide +kernel
theorem dX7_init_0 : decode cX7_init 0 = .ok (.aload_n 0, 1) := by decide +kernel
theorem dX7_init_1 : decode cX7_init 1 = .ok (.invokespecial 3, 3) := by decide +kernel
theorem dX7_init_4 : decode cX7_init 4 = .ok (.aload_n 0, 1) := by decide +kernel
theorem dX7_init_5 : decode cX7_init 5 = .ok (.bipush 9, 2) := by decide +kernel
theorem dX7_init_7 : decode cX7_init 7 = .ok (.bipush 8, 2) := by decide +kernel
theorem dX7_init_9 : decode cX7_init 9 = .ok (.multianewarray 9 2, 4) := by decide +kernel
theorem dX7_init_13 : decode cX7_init 13 = .ok (.putfield 11, 3) := by decide +kernel
theorem dX7_init_16 : decode cX7_init 16 = .ok (.aload_n 0, 1) := by decide +kernel
theorem dX7_init_17 : decode cX7_init 17 = .ok (.bipush 8, 2) := by decide +kernel
theorem dX7_init_19 : decode cX7_init 19 = .ok (.newarray .boolean, 2) := by decide +kernel
theorem dX7_init_21 : decode cX7_init 21 = .ok (.putfield 16, 3) := by decide +kernel
theorem dX7_init_24 : decode cX7_init 24 = .ok (.aload_n 0, 1) := by decide +kernel
theorem dX7_init_25 : decode cX7_init 25 = .ok (.bipush 8, 2) := by decide +kernel
theorem dX7_init_27 : decode cX7_init 27 = .ok (.newarray .int, 2) := by decide +kernel
theorem dX7_init_29 : decode cX7_init 29 = .ok (.putfield 20, 3) := by decide +kernel
theorem dX7_init_32 : decode cX7_init 32 = .ok (.aload_n 0, 1) := by decide +kernel
theorem dX7_init_33 : decode cX7_init 33 = .ok (.bipush 8, 2) := by decide +kernel
theorem dX7_init_35 : decode cX7_init 35 = .ok (.newarray .int, 2) := by decide +kernel
theorem dX7_init_37 : decode cX7_init 37 = .ok (.putfield 24, 3) := by decide +kernel
theorem dX7_init_40 : decode cX7_init 40 = .ok (.aload_n 0, 1) := by decide +kernel
theorem dX7_init_41 : decode cX7_init 41 = .ok (.new 27, 3) := by decide +kernel
theorem dX7_init_44 : decode cX7_init 44 = .ok (.dup, 1) := by decide +kernel
theorem dX7_init_45 : decode cX7_init 45 = .ok (.invokespecial 29, 3) := by decide +kernel
theorem dX7_init_48 : decode cX7_init 48 = .ok (.putfield 30, 3) := by decide +kernel
theorem dX7_init_51 : decode cX7_init 51 = .ok (.aload_n 0, 1) := by decide +kernel
theorem dX7_init_52 : decode cX7_init 52 = .ok (.bipush 8, 2) := by decide +kernel
theorem dX7_init_54 : decode cX7_init 54 = .ok (.newarray .int, 2) := by decide +kernel
theorem dX7_init_56 : decode cX7_init 56 = .ok (.putfield 34, 3) := by decide +kernel
theorem dX7_init_59 : decode cX7_init 59 = .ok (.aload_n 0, 1) := by decide +kernel
theorem dX7_init_60 : decode cX7_init 60 = .ok (.bipush 8, 2) := by decide +kernel
theorem dX7_init_62 : decode cX7_init 62 = .ok (.newarray .int, 2) := by decide +kernel
theorem dX7_init_64 : decode cX7_init 64 = .ok (.putfield 37, 3) := by decide +kernel
theorem dX7_init_67 : decode cX7_init 67 = .ok (.return_, 1) := by decide +kernel
theorem dX7_make_0 : decode cX7_make 0 = .ok (.aload_n 0, 1) := by decide +kernel
theorem dX7_make_1 : decode cX7_make 1 = .ok (.iconst 1, 1) := by decide +kernel
theorem dX7_make_2 : decode cX7_make 2 = .ok (.putfield 40, 3) := by decide +kernel
theorem dX7_make_5 : decode cX7_make 5 = .ok (.aload_n 0, 1) := by decide +kernel
theorem dX7_make_6 : decode cX7_make 6 = .ok (.iload_n 2, 1) := by decide +kernel
theorem dX7_make_7 : decode cX7_make 7 = .ok (.putfield 44, 3) := by decide +kernel
theorem dX7_make_10 : decode cX7_make 10 = .ok (.aload_n 0, 1) := by decide +kernel
theorem dX7_make_11 : decode cX7_make 11 = .ok (.iload_n 3, 1) := by decide +kernel
theorem dX7_make_12 : decode cX7_make 12 = .ok (.putfield 47, 3) := by decide +kernel
theorem dX7_make_15 : decode cX7_make 15 = .ok (.aload_n 0, 1) := by decide +kernel
theorem dX7_make_16 : decode cX7_make 16 = .ok (.iload 4, 2) := by decide +kernel
theorem dX7_make_18 : decode cX7_make 18 = .ok (.putfield 51, 3) := by decide +kernel
theorem dX7_make_21 : decode cX7_make 21 = .ok (.aload_n 0, 1) := by decide +kernel
theorem dX7_make_22 : decode cX7_make 22 = .ok (.iconst 0, 1) := by decide +kernel
theorem dX7_make_23 : decode cX7_make 23 = .ok (.putfield 54, 3) := by decide +kernel
theorem dX7_make_26 : decode cX7_make 26 = .ok (.aload_n 0, 1) := by decide +kernel
theorem dX7_make_27 : decode cX7_make 27 = .ok (.iload_n 2, 1) := by decide +kernel
theorem dX7_make_28 : decode cX7_make 28 = .ok (.ifCond .eq 9, 3) := by decide +kernel
theorem dX7_make_31 : decode cX7_make 31 = .ok (.iload_n 3, 1) := by decide +kernel
theorem dX7_make_32 : decode cX7_make 32 = .ok (.iconst 1, 1) := by decide +kernel
theorem dX7_make_33 : decode cX7_make 33 = .ok (.isub, 1) := by decide +kernel
theorem dX7_make_34 : decode cX7_make 34 = .ok (.goto 4, 3) := by decide +kernel
theorem dX7_make_37 : decode cX7_make 37 = .ok (.iload_n 3, 1) := by decide +kernel
theorem dX7_make_38 : decode cX7_make 38 = .ok (.invokevirtual 57, 3) := by decide +kernel
theorem dX7_make_41 : decode cX7_make 41 = .ok (.aload_n 0, 1) := by decide +kernel
theorem dX7_make_42 : decode cX7_make 42 = .ok (.invokevirtual 61, 3) := by decide +kernel
theorem dX7_make_45 : decode cX7_make 45 = .ok (.ifCond .eq 26, 3) := by decide +kernel
theorem dX7_make_48 : decode cX7_make 48 = .ok (.aload_n 1, 1) := by decide +kernel
theorem dX7_make_49 : decode cX7_make 49 = .ok (.aload_n 0, 1) := by decide +kernel
theorem dX7_make_50 : decode cX7_make 50 = .ok (.getfield 65, 3) := by decide +kernel
theorem dX7_make_53 : decode cX7_make 53 = .ok (.aload_n 0, 1) := by decide +kernel
theorem dX7_make_54 : decode cX7_make 54 = .ok (.getfield 68, 3) := by decide +kernel
theorem dX7_make_57 : decode cX7_make 57 = .ok (.aload_n 0, 1) := by decide +kernel
theorem dX7_make_58 : decode cX7_make 58 = .ok (.getfield 11, 3) := by decide +kernel
theorem dX7_make_61 : decode cX7_make 61 = .ok (.iconst 0, 1) := by decide +kernel
theorem dX7_make_62 : decode cX7_make 62 = .ok (.aaload, 1) := by decide +kernel
theorem dX7_make_63 : decode cX7_make 63 = .ok (.invokevirtual 71, 3) := by decide +kernel
theorem dX7_make_66 : decode cX7_make 66 = .ok (.aload_n 0, 1) := by decide +kernel
theorem dX7_make_67 : decode cX7_make 67 = .ok (.iconst 1, 1) := by decide +kernel
theorem dX7_make_68 : decode cX7_make 68 = .ok (.putfield 54, 3) := by decide +kernel
theorem dX7_make_71 : decode cX7_make 71 = .ok (.aload_n 0, 1) := by decide +kernel
theorem dX7_make_72 : decode cX7_make 72 = .ok (.getfield 77, 3) := by decide +kernel
theorem dX7_make_75 : decode cX7_make 75 = .ok (.iconst 1, 1) := by decide +kernel
theorem dX7_make_76 : decode cX7_make 76 = .ok (.isub, 1) := by decide +kernel
theorem dX7_make_77 : decode cX7_make 77 = .ok (.istore 5, 2) := by decide +kernel
theorem dX7_make_79 : decode cX7_make 79 = .ok (.iload 5, 2) := by decide +kernel
theorem dX7_make_81 : decode cX7_make 81 = .ok (.ifCond .lt 46, 3) := by decide +kernel
theorem dX7_make_84 : decode cX7_make 84 = .ok (.aload_n 1, 1) := by decide +kernel
theorem dX7_make_85 : decode cX7_make 85 = .ok (.aload_n 0, 1) := by decide +kernel
theorem dX7_make_86 : decode cX7_make 86 = .ok (.getfield 20, 3) := by decide +kernel
theorem dX7_make_89 : decode cX7_make 89 = .ok (.iload 5, 2) := by decide +kernel
theorem dX7_make_91 : decode cX7_make 91 = .ok (.iaload, 1) := by decide +kernel
theorem dX7_make_92 : decode cX7_make 92 = .ok (.aload_n 0, 1) := by decide +kernel
theorem dX7_make_93 : decode cX7_make 93 = .ok (.getfield 24, 3) := by decide +kernel
theorem dX7_make_96 : decode cX7_make 96 = .ok (.iload 5, 2) := by decide +kernel
theorem dX7_make_98 : decode cX7_make 98 = .ok (.iaload, 1) := by decide +kernel
theorem dX7_make_99 : decode cX7_make 99 = .ok (.aload_n 0, 1) := by decide +kernel
theorem dX7_make_100 : decode cX7_make 100 = .ok (.getfield 11, 3) := by decide +kernel
theorem dX7_make_103 : decode cX7_make 103 = .ok (.aload_n 0, 1) := by decide +kernel
theorem dX7_make_104 : decode cX7_make 104 = .ok (.getfield 54, 3) := by decide +kernel
theorem dX7_make_107 : decode cX7_make 107 = .ok (.aaload, 1) := by decide +kernel
theorem dX7_make_108 : decode cX7_make 108 = .ok (.invokevirtual 71, 3) := by decide +kernel
theorem dX7_make_111 : decode cX7_make 111 = .ok (.aload_n 0, 1) := by decide +kernel
theorem dX7_make_112 : decode cX7_make 112 = .ok (.dup, 1) := by decide +kernel
theorem dX7_make_113 : decode cX7_make 113 = .ok (.getfield 54, 3) := by decide +kernel
theorem dX7_make_116 : decode cX7_make 116 = .ok (.iconst 1, 1) := by decide +kernel
theorem dX7_make_117 : decode cX7_make 117 = .ok (.iadd, 1) := by decide +kernel
theorem dX7_make_118 : decode cX7_make 118 = .ok (.putfield 54, 3) := by decide +kernel
theorem dX7_make_121 : decode cX7_make 121 = .ok (.iinc 5 (-1), 3) := by decide +kernel
theorem dX7_make_124 : decode cX7_make 124 = .ok (.goto (-45), 3) := by decide +kernel
theorem dX7_make_127 : decode cX7_make 127 = .ok (.return_, 1) := by decide +kernel
theorem dX7_reaches_0 : decode cX7_reaches 0 = .ok (.aload_n 0, 1) := by decide +kernel
theorem dX7_reaches_1 : decode cX7_reaches 1 = .ok (.aload_n 1, 1) := by decide +kernel
theorem dX7_reaches_2 : decode cX7_reaches 2 = .ok (.invokevirtual 80, 3) := by decide +kernel
theorem dX7_reaches_5 : decode cX7_reaches 5 = .ok (.aload_n 0, 1) := by decide +kernel
theorem dX7_reaches_6 : decode cX7_reaches 6 = .ok (.getfield 37, 3) := by decide +kernel
theorem dX7_reaches_9 : decode cX7_reaches 9 = .ok (.aload_n 2, 1) := by decide +kernel
theorem dX7_reaches_10 : decode cX7_reaches 10 = .ok (.getfield 84, 3) := by decide +kernel
theorem dX7_reaches_13 : decode cX7_reaches 13 = .ok (.invokestatic 89, 3) := by decide +kernel
theorem dX7_reaches_16 : decode cX7_reaches 16 = .ok (.ireturn, 1) := by decide +kernel
theorem dX7_joins_0 : decode cX7_joins 0 = .ok (.aload_n 0, 1) := by decide +kernel
theorem dX7_joins_1 : decode cX7_joins 1 = .ok (.aload_n 0, 1) := by decide +kernel
theorem dX7_joins_2 : decode cX7_joins 2 = .ok (.invokevirtual 61, 3) := by decide +kernel
theorem dX7_joins_5 : decode cX7_joins 5 = .ok (.ifCond .eq 12, 3) := by decide +kernel
theorem dX7_joins_8 : decode cX7_joins 8 = .ok (.aload_n 0, 1) := by decide +kernel
theorem dX7_joins_9 : decode cX7_joins 9 = .ok (.getfield 11, 3) := by decide +kernel
theorem dX7_joins_12 : decode cX7_joins 12 = .ok (.iconst 0, 1) := by decide +kernel
theorem dX7_joins_13 : decode cX7_joins 13 = .ok (.aaload, 1) := by decide +kernel
theorem dX7_joins_14 : decode cX7_joins 14 = .ok (.goto 7, 3) := by decide +kernel
theorem dX7_joins_17 : decode cX7_joins 17 = .ok (.aload_n 1, 1) := by decide +kernel
theorem dX7_joins_18 : decode cX7_joins 18 = .ok (.getfield 84, 3) := by decide +kernel
theorem dX7_joins_21 : decode cX7_joins 21 = .ok (.invokevirtual 80, 3) := by decide +kernel
theorem dX7_joins_24 : decode cX7_joins 24 = .ok (.aload_n 0, 1) := by decide +kernel
theorem dX7_joins_25 : decode cX7_joins 25 = .ok (.getfield 34, 3) := by decide +kernel
theorem dX7_joins_28 : decode cX7_joins 28 = .ok (.aload_n 1, 1) := by decide +kernel
theorem dX7_joins_29 : decode cX7_joins 29 = .ok (.getfield 84, 3) := by decide +kernel
theorem dX7_joins_32 : decode cX7_joins 32 = .ok (.invokestatic 89, 3) := by decide +kernel
theorem dX7_joins_35 : decode cX7_joins 35 = .ok (.ifCond .eq 21, 3) := by decide +kernel
theorem dX7_joins_38 : decode cX7_joins 38 = .ok (.aload_n 0, 1) := by decide +kernel
theorem dX7_joins_39 : decode cX7_joins 39 = .ok (.getfield 37, 3) := by decide +kernel
theorem dX7_joins_42 : decode cX7_joins 42 = .ok (.aload_n 2, 1) := by decide +kernel
theorem dX7_joins_43 : decode cX7_joins 43 = .ok (.getfield 84, 3) := by decide +kernel
theorem dX7_joins_46 : decode cX7_joins 46 = .ok (.invokestatic 89, 3) := by decide +kernel
theorem dX7_joins_49 : decode cX7_joins 49 = .ok (.ifCond .eq 7, 3) := by decide +kernel
theorem dX7_joins_52 : decode cX7_joins 52 = .ok (.iconst 1, 1) := by decide +kernel
theorem dX7_joins_53 : decode cX7_joins 53 = .ok (.goto 4, 3) := by decide +kernel
theorem dX7_joins_56 : decode cX7_joins 56 = .ok (.iconst 0, 1) := by decide +kernel
theorem dX7_joins_57 : decode cX7_joins 57 = .ok (.ireturn, 1) := by decide +kernel
theorem dX7_hasOwnBeginning_0 : decode cX7_hasOwnBeginning 0 = .ok (.aload_n 0, 1) := by decide +kernel
theorem dX7_hasOwnBeginning_1 : decode cX7_hasOwnBeginning 1 = .ok (.getfield 44, 3) := by decide +kernel
theorem dX7_hasOwnBeginning_4 : decode cX7_hasOwnBeginning 4 = .ok (.ifCond .eq 14, 3) := by decide +kernel
theorem dX7_hasOwnBeginning_7 : decode cX7_hasOwnBeginning 7 = .ok (.aload_n 0, 1) := by decide +kernel
theorem dX7_hasOwnBeginning_8 : decode cX7_hasOwnBeginning 8 = .ok (.getfield 65, 3) := by decide +kernel
theorem dX7_hasOwnBeginning_11 : decode cX7_hasOwnBeginning 11 = .ok (.ifCond .le 7, 3) := by decide +kernel
theorem dX7_hasOwnBeginning_14 : decode cX7_hasOwnBeginning 14 = .ok (.iconst 1, 1) := by decide +kernel
theorem dX7_hasOwnBeginning_15 : decode cX7_hasOwnBeginning 15 = .ok (.goto 4, 3) := by decide +kernel
theorem dX7_hasOwnBeginning_18 : decode cX7_hasOwnBeginning 18 = .ok (.iconst 0, 1) := by decide +kernel
theorem dX7_hasOwnBeginning_19 : decode cX7_hasOwnBeginning 19 = .ok (.ireturn, 1) := by decide +kernel
theorem dX7_goDown_0 : decode cX7_goDown 0 = .ok (.aload_n 0, 1) := by decide +kernel
theorem dX7_goDown_1 : decode cX7_goDown 1 = .ok (.iconst 0, 1) := by decide +kernel
theorem dX7_goDown_2 : decode cX7_goDown 2 = .ok (.putfield 65, 3) := by decide +kernel
theorem dX7_goDown_5 : decode cX7_goDown 5 = .ok (.aload_n 0, 1) := by decide +kernel
theorem dX7_goDown_6 : decode cX7_goDown 6 = .ok (.aload_n 0, 1) := by decide +kernel
theorem dX7_goDown_7 : decode cX7_goDown 7 = .ok (.getfield 51, 3) := by decide +kernel
theorem dX7_goDown_10 : decode cX7_goDown 10 = .ok (.putfield 68, 3) := by decide +kernel
theorem dX7_goDown_13 : decode cX7_goDown 13 = .ok (.aload_n 0, 1) := by decide +kernel
theorem dX7_goDown_14 : decode cX7_goDown 14 = .ok (.iconst 0, 1) := by decide +kernel
theorem dX7_goDown_15 : decode cX7_goDown 15 = .ok (.putfield 77, 3) := by decide +kernel
theorem dX7_goDown_18 : decode cX7_goDown 18 = .ok (.aload_n 0, 1) := by decide +kernel
theorem dX7_goDown_19 : decode cX7_goDown 19 = .ok (.getfield 77, 3) := by decide +kernel
theorem dX7_goDown_22 : decode cX7_goDown 22 = .ok (.bipush 8, 2) := by decide +kernel
theorem dX7_goDown_24 : decode cX7_goDown 24 = .ok (.if_icmp .ge 146, 3) := by decide +kernel
theorem dX7_goDown_27 : decode cX7_goDown 27 = .ok (.aload_n 0, 1) := by decide +kernel
theorem dX7_goDown_28 : decode cX7_goDown 28 = .ok (.iload_n 1, 1) := by decide +kernel
theorem dX7_goDown_29 : decode cX7_goDown 29 = .ok (.invokevirtual 93, 3) := by decide +kernel
theorem dX7_goDown_32 : decode cX7_goDown 32 = .ok (.ifCond .ne 138, 3) := by decide +kernel
theorem dX7_goDown_35 : decode cX7_goDown 35 = .ok (.aload_n 0, 1) := by decide +kernel
theorem dX7_goDown_36 : decode cX7_goDown 36 = .ok (.getfield 68, 3) := by decide +kernel
theorem dX7_goDown_39 : decode cX7_goDown 39 = .ok (.invokestatic 97, 3) := by decide +kernel
theorem dX7_goDown_42 : decode cX7_goDown 42 = .ok (.istore_n 2, 1) := by decide +kernel
theorem dX7_goDown_43 : decode cX7_goDown 43 = .ok (.iload_n 1, 1) := by decide +kernel
theorem dX7_goDown_44 : decode cX7_goDown 44 = .ok (.aload_n 0, 1) := by decide +kernel
theorem dX7_goDown_45 : decode cX7_goDown 45 = .ok (.getfield 65, 3) := by decide +kernel
theorem dX7_goDown_48 : decode cX7_goDown 48 = .ok (.iload_n 2, 1) := by decide +kernel
theorem dX7_goDown_49 : decode cX7_goDown 49 = .ok (.iadd, 1) := by decide +kernel
theorem dX7_goDown_50 : decode cX7_goDown 50 = .ok (.if_icmp .lt 7, 3) := by decide +kernel
theorem dX7_goDown_53 : decode cX7_goDown 53 = .ok (.iconst 1, 1) := by decide +kernel
theorem dX7_goDown_54 : decode cX7_goDown 54 = .ok (.goto 4, 3) := by decide +kernel
theorem dX7_goDown_57 : decode cX7_goDown 57 = .ok (.iconst 0, 1) := by decide +kernel
theorem dX7_goDown_58 : decode cX7_goDown 58 = .ok (.istore_n 3, 1) := by decide +kernel
theorem dX7_goDown_59 : decode cX7_goDown 59 = .ok (.aload_n 0, 1) := by decide +kernel
theorem dX7_goDown_60 : decode cX7_goDown 60 = .ok (.getfield 16, 3) := by decide +kernel
theorem dX7_goDown_63 : decode cX7_goDown 63 = .ok (.aload_n 0, 1) := by decide +kernel
theorem dX7_goDown_64 : decode cX7_goDown 64 = .ok (.getfield 77, 3) := by decide +kernel
theorem dX7_goDown_67 : decode cX7_goDown 67 = .ok (.iload_n 3, 1) := by decide +kernel
theorem dX7_goDown_68 : decode cX7_goDown 68 = .ok (.bastore, 1) := by decide +kernel
theorem dX7_goDown_69 : decode cX7_goDown 69 = .ok (.aload_n 0, 1) := by decide +kernel
theorem dX7_goDown_70 : decode cX7_goDown 70 = .ok (.getfield 20, 3) := by decide +kernel
theorem dX7_goDown_73 : decode cX7_goDown 73 = .ok (.aload_n 0, 1) := by decide +kernel
theorem dX7_goDown_74 : decode cX7_goDown 74 = .ok (.getfield 77, 3) := by decide +kernel
theorem dX7_goDown_77 : decode cX7_goDown 77 = .ok (.iload_n 3, 1) := by decide +kernel
theorem dX7_goDown_78 : decode cX7_goDown 78 = .ok (.ifCond .eq 10, 3) := by decide +kernel
theorem dX7_goDown_81 : decode cX7_goDown 81 = .ok (.aload_n 0, 1) := by decide +kernel
theorem dX7_goDown_82 : decode cX7_goDown 82 = .ok (.getfield 65, 3) := by decide +kernel
theorem dX7_goDown_85 : decode cX7_goDown 85 = .ok (.goto 9, 3) := by decide +kernel
theorem dX7_goDown_88 : decode cX7_goDown 88 = .ok (.aload_n 0, 1) := by decide +kernel
theorem dX7_goDown_89 : decode cX7_goDown 89 = .ok (.getfield 65, 3) := by decide +kernel
theorem dX7_goDown_92 : decode cX7_goDown 92 = .ok (.iload_n 2, 1) := by decide +kernel
theorem dX7_goDown_93 : decode cX7_goDown 93 = .ok (.iadd, 1) := by decide +kernel
theorem dX7_goDown_94 : decode cX7_goDown 94 = .ok (.iastore, 1) := by decide +kernel
theorem dX7_goDown_95 : decode cX7_goDown 95 = .ok (.aload_n 0, 1) := by decide +kernel
theorem dX7_goDown_96 : decode cX7_goDown 96 = .ok (.getfield 24, 3) := by decide +kernel
theorem dX7_goDown_99 : decode cX7_goDown 99 = .ok (.aload_n 0, 1) := by decide +kernel
theorem dX7_goDown_100 : decode cX7_goDown 100 = .ok (.getfield 77, 3) := by decide +kernel
theorem dX7_goDown_103 : decode cX7_goDown 103 = .ok (.iload_n 3, 1) := by decide +kernel
theorem dX7_goDown_104 : decode cX7_goDown 104 = .ok (.ifCond .eq 7, 3) := by decide +kernel
theorem dX7_goDown_107 : decode cX7_goDown 107 = .ok (.iload_n 2, 1) := by decide +kernel
theorem dX7_goDown_108 : decode cX7_goDown 108 = .ok (.goto 9, 3) := by decide +kernel
theorem dX7_goDown_111 : decode cX7_goDown 111 = .ok (.aload_n 0, 1) := by decide +kernel
theorem dX7_goDown_112 : decode cX7_goDown 112 = .ok (.getfield 68, 3) := by decide +kernel
theorem dX7_goDown_115 : decode cX7_goDown 115 = .ok (.iload_n 2, 1) := by decide +kernel
theorem dX7_goDown_116 : decode cX7_goDown 116 = .ok (.isub, 1) := by decide +kernel
theorem dX7_goDown_117 : decode cX7_goDown 117 = .ok (.iastore, 1) := by decide +kernel
theorem dX7_goDown_118 : decode cX7_goDown 118 = .ok (.aload_n 0, 1) := by decide +kernel
theorem dX7_goDown_119 : decode cX7_goDown 119 = .ok (.iload_n 3, 1) := by decide +kernel
theorem dX7_goDown_120 : decode cX7_goDown 120 = .ok (.ifCond .eq 12, 3) := by decide +kernel
theorem dX7_goDown_123 : decode cX7_goDown 123 = .ok (.aload_n 0, 1) := by decide +kernel
theorem dX7_goDown_124 : decode cX7_goDown 124 = .ok (.getfield 65, 3) := by decide +kernel
theorem dX7_goDown_127 : decode cX7_goDown 127 = .ok (.iload_n 2, 1) := by decide +kernel
theorem dX7_goDown_128 : decode cX7_goDown 128 = .ok (.iadd, 1) := by decide +kernel
theorem dX7_goDown_129 : decode cX7_goDown 129 = .ok (.goto 7, 3) := by decide +kernel
theorem dX7_goDown_132 : decode cX7_goDown 132 = .ok (.aload_n 0, 1) := by decide +kernel
theorem dX7_goDown_133 : decode cX7_goDown 133 = .ok (.getfield 65, 3) := by decide +kernel
theorem dX7_goDown_136 : decode cX7_goDown 136 = .ok (.putfield 65, 3) := by decide +kernel
theorem dX7_goDown_139 : decode cX7_goDown 139 = .ok (.aload_n 0, 1) := by decide +kernel
theorem dX7_goDown_140 : decode cX7_goDown 140 = .ok (.iload_n 3, 1) := by decide +kernel
theorem dX7_goDown_141 : decode cX7_goDown 141 = .ok (.ifCond .eq 12, 3) := by decide +kernel
theorem dX7_goDown_144 : decode cX7_goDown 144 = .ok (.aload_n 0, 1) := by decide +kernel
theorem dX7_goDown_145 : decode cX7_goDown 145 = .ok (.getfield 68, 3) := by decide +kernel
theorem dX7_goDown_148 : decode cX7_goDown 148 = .ok (.iload_n 2, 1) := by decide +kernel
theorem dX7_goDown_149 : decode cX7_goDown 149 = .ok (.isub, 1) := by decide +kernel
theorem dX7_goDown_150 : decode cX7_goDown 150 = .ok (.goto 4, 3) := by decide +kernel
theorem dX7_goDown_153 : decode cX7_goDown 153 = .ok (.iload_n 2, 1) := by decide +kernel
theorem dX7_goDown_154 : decode cX7_goDown 154 = .ok (.putfield 68, 3) := by decide +kernel
theorem dX7_goDown_157 : decode cX7_goDown 157 = .ok (.aload_n 0, 1) := by decide +kernel
theorem dX7_goDown_158 : decode cX7_goDown 158 = .ok (.dup, 1) := by decide +kernel
theorem dX7_goDown_159 : decode cX7_goDown 159 = .ok (.getfield 77, 3) := by decide +kernel
theorem dX7_goDown_162 : decode cX7_goDown 162 = .ok (.iconst 1, 1) := by decide +kernel
theorem dX7_goDown_163 : decode cX7_goDown 163 = .ok (.iadd, 1) := by decide +kernel
theorem dX7_goDown_164 : decode cX7_goDown 164 = .ok (.putfield 77, 3) := by decide +kernel
theorem dX7_goDown_167 : decode cX7_goDown 167 = .ok (.goto (-149), 3) := by decide +kernel
theorem dX7_goDown_170 : decode cX7_goDown 170 = .ok (.return_, 1) := by decide +kernel
theorem dX7_isEnd_0 : decode cX7_isEnd 0 = .ok (.aload_n 0, 1) := by decide +kernel
theorem dX7_isEnd_1 : decode cX7_isEnd 1 = .ok (.getfield 68, 3) := by decide +kernel
theorem dX7_isEnd_4 : decode cX7_isEnd 4 = .ok (.iconst 1, 1) := by decide +kernel
theorem dX7_isEnd_5 : decode cX7_isEnd 5 = .ok (.if_icmp .eq 25, 3) := by decide +kernel
theorem dX7_isEnd_8 : decode cX7_isEnd 8 = .ok (.aload_n 0, 1) := by decide +kernel
theorem dX7_isEnd_9 : decode cX7_isEnd 9 = .ok (.getfield 44, 3) := by decide +kernel
theorem dX7_isEnd_12 : decode cX7_isEnd 12 = .ok (.ifCond .eq 22, 3) := by decide +kernel
theorem dX7_isEnd_15 : decode cX7_isEnd 15 = .ok (.iload_n 1, 1) := by decide +kernel
theorem dX7_isEnd_16 : decode cX7_isEnd 16 = .ok (.aload_n 0, 1) := by decide +kernel
theorem dX7_isEnd_17 : decode cX7_isEnd 17 = .ok (.getfield 65, 3) := by decide +kernel
theorem dX7_isEnd_20 : decode cX7_isEnd 20 = .ok (.aload_n 0, 1) := by decide +kernel
theorem dX7_isEnd_21 : decode cX7_isEnd 21 = .ok (.getfield 68, 3) := by decide +kernel
theorem dX7_isEnd_24 : decode cX7_isEnd 24 = .ok (.iadd, 1) := by decide +kernel
theorem dX7_isEnd_25 : decode cX7_isEnd 25 = .ok (.iconst 1, 1) := by decide +kernel
theorem dX7_isEnd_26 : decode cX7_isEnd 26 = .ok (.isub, 1) := by decide +kernel
theorem dX7_isEnd_27 : decode cX7_isEnd 27 = .ok (.if_icmp .ne 7, 3) := by decide +kernel
theorem dX7_isEnd_30 : decode cX7_isEnd 30 = .ok (.iconst 1, 1) := by decide +kernel
theorem dX7_isEnd_31 : decode cX7_isEnd 31 = .ok (.goto 4, 3) := by decide +kernel
theorem dX7_isEnd_34 : decode cX7_isEnd 34 = .ok (.iconst 0, 1) := by decide +kernel
theorem dX7_isEnd_35 : decode cX7_isEnd 35 = .ok (.ireturn, 1) := by decide +kernel
theorem dX7_powerBelow_0 : decode cX7_powerBelow 0 = .ok (.iconst 1, 1) := by decide +kernel
theorem dX7_powerBelow_1 : decode cX7_powerBelow 1 = .ok (.istore_n 1, 1) := by decide +kernel
theorem dX7_powerBelow_2 : decode cX7_powerBelow 2 = .ok (.iconst 0, 1) := by decide +kernel
theorem dX7_powerBelow_3 : decode cX7_powerBelow 3 = .ok (.istore_n 2, 1) := by decide +kernel
theorem dX7_powerBelow_4 : decode cX7_powerBelow 4 = .ok (.iload_n 2, 1) := by decide +kernel
theorem dX7_powerBelow_5 : decode cX7_powerBelow 5 = .ok (.bipush 8, 2) := by decide +kernel
theorem dX7_powerBelow_7 : decode cX7_powerBelow 7 = .ok (.if_icmp .ge 20, 3) := by decide +kernel
theorem dX7_powerBelow_10 : decode cX7_powerBelow 10 = .ok (.iconst 2, 1) := by decide +kernel
theorem dX7_powerBelow_11 : decode cX7_powerBelow 11 = .ok (.iload_n 1, 1) := by decide +kernel
theorem dX7_powerBelow_12 : decode cX7_powerBelow 12 = .ok (.imul, 1) := by decide +kernel
theorem dX7_powerBelow_13 : decode cX7_powerBelow 13 = .ok (.iload_n 0, 1) := by decide +kernel
theorem dX7_powerBelow_14 : decode cX7_powerBelow 14 = .ok (.if_icmp .ge 13, 3) := by decide +kernel
theorem dX7_powerBelow_17 : decode cX7_powerBelow 17 = .ok (.iload_n 1, 1) := by decide +kernel
theorem dX7_powerBelow_18 : decode cX7_powerBelow 18 = .ok (.iconst 2, 1) := by decide +kernel
theorem dX7_powerBelow_19 : decode cX7_powerBelow 19 = .ok (.imul, 1) := by decide +kernel
theorem dX7_powerBelow_20 : decode cX7_powerBelow 20 = .ok (.istore_n 1, 1) := by decide +kernel
theorem dX7_powerBelow_21 : decode cX7_powerBelow 21 = .ok (.iinc 2 1, 3) := by decide +kernel
theorem dX7_powerBelow_24 : decode cX7_powerBelow 24 = .ok (.goto (-20), 3) := by decide +kernel
theorem dX7_powerBelow_27 : decode cX7_powerBelow 27 = .ok (.iload_n 1, 1) := by decide +kernel
theorem dX7_powerBelow_28 : decode cX7_powerBelow 28 = .ok (.ireturn, 1) := by decide +kernel
theorem dX7_goUp_0 : decode cX7_goUp 0 = .ok (.aload_n 1, 1) := by decide +kernel
theorem dX7_goUp_1 : decode cX7_goUp 1 = .ok (.aload_n 0, 1) := by decide +kernel
theorem dX7_goUp_2 : decode cX7_goUp 2 = .ok (.getfield 34, 3) := by decide +kernel
theorem dX7_goUp_5 : decode cX7_goUp 5 = .ok (.invokestatic 101, 3) := by decide +kernel
theorem dX7_goUp_8 : decode cX7_goUp 8 = .ok (.aload_n 1, 1) := by decide +kernel
theorem dX7_goUp_9 : decode cX7_goUp 9 = .ok (.aload_n 0, 1) := by decide +kernel
theorem dX7_goUp_10 : decode cX7_goUp 10 = .ok (.getfield 37, 3) := by decide +kernel
theorem dX7_goUp_13 : decode cX7_goUp 13 = .ok (.invokestatic 101, 3) := by decide +kernel
theorem dX7_goUp_16 : decode cX7_goUp 16 = .ok (.aload_n 0, 1) := by decide +kernel
theorem dX7_goUp_17 : decode cX7_goUp 17 = .ok (.getfield 54, 3) := by decide +kernel
theorem dX7_goUp_20 : decode cX7_goUp 20 = .ok (.aload_n 0, 1) := by decide +kernel
theorem dX7_goUp_21 : decode cX7_goUp 21 = .ok (.getfield 77, 3) := by decide +kernel
theorem dX7_goUp_24 : decode cX7_goUp 24 = .ok (.isub, 1) := by decide +kernel
theorem dX7_goUp_25 : decode cX7_goUp 25 = .ok (.istore_n 2, 1) := by decide +kernel
theorem dX7_goUp_26 : decode cX7_goUp 26 = .ok (.aload_n 0, 1) := by decide +kernel
theorem dX7_goUp_27 : decode cX7_goUp 27 = .ok (.getfield 77, 3) := by decide +kernel
theorem dX7_goUp_30 : decode cX7_goUp 30 = .ok (.iconst 1, 1) := by decide +kernel
theorem dX7_goUp_31 : decode cX7_goUp 31 = .ok (.isub, 1) := by decide +kernel
theorem dX7_goUp_32 : decode cX7_goUp 32 = .ok (.istore_n 3, 1) := by decide +kernel
theorem dX7_goUp_33 : decode cX7_goUp 33 = .ok (.iload_n 3, 1) := by decide +kernel
theorem dX7_goUp_34 : decode cX7_goUp 34 = .ok (.ifCond .lt 87, 3) := by decide +kernel
theorem dX7_goUp_37 : decode cX7_goUp 37 = .ok (.aload_n 0, 1) := by decide +kernel
theorem dX7_goUp_38 : decode cX7_goUp 38 = .ok (.getfield 16, 3) := by decide +kernel
theorem dX7_goUp_41 : decode cX7_goUp 41 = .ok (.iload_n 3, 1) := by decide +kernel
theorem dX7_goUp_42 : decode cX7_goUp 42 = .ok (.baload, 1) := by decide +kernel
theorem dX7_goUp_43 : decode cX7_goUp 43 = .ok (.ifCond .eq 48, 3) := by decide +kernel
theorem dX7_goUp_46 : decode cX7_goUp 46 = .ok (.aload_n 0, 1) := by decide +kernel
theorem dX7_goUp_47 : decode cX7_goUp 47 = .ok (.getfield 30, 3) := by decide +kernel
theorem dX7_goUp_50 : decode cX7_goUp 50 = .ok (.aload_n 0, 1) := by decide +kernel
theorem dX7_goUp_51 : decode cX7_goUp 51 = .ok (.getfield 11, 3) := by decide +kernel
theorem dX7_goUp_54 : decode cX7_goUp 54 = .ok (.iload_n 2, 1) := by decide +kernel
theorem dX7_goUp_55 : decode cX7_goUp 55 = .ok (.aaload, 1) := by decide +kernel
theorem dX7_goUp_56 : decode cX7_goUp 56 = .ok (.aload_n 0, 1) := by decide +kernel
theorem dX7_goUp_57 : decode cX7_goUp 57 = .ok (.getfield 34, 3) := by decide +kernel
theorem dX7_goUp_60 : decode cX7_goUp 60 = .ok (.aload_n 0, 1) := by decide +kernel
theorem dX7_goUp_61 : decode cX7_goUp 61 = .ok (.getfield 34, 3) := by decide +kernel
theorem dX7_goUp_64 : decode cX7_goUp 64 = .ok (.invokevirtual 105, 3) := by decide +kernel
theorem dX7_goUp_67 : decode cX7_goUp 67 = .ok (.aload_n 0, 1) := by decide +kernel
theorem dX7_goUp_68 : decode cX7_goUp 68 = .ok (.getfield 30, 3) := by decide +kernel
theorem dX7_goUp_71 : decode cX7_goUp 71 = .ok (.aload_n 0, 1) := by decide +kernel
theorem dX7_goUp_72 : decode cX7_goUp 72 = .ok (.getfield 11, 3) := by decide +kernel
theorem dX7_goUp_75 : decode cX7_goUp 75 = .ok (.iload_n 2, 1) := by decide +kernel
theorem dX7_goUp_76 : decode cX7_goUp 76 = .ok (.aaload, 1) := by decide +kernel
theorem dX7_goUp_77 : decode cX7_goUp 77 = .ok (.aload_n 0, 1) := by decide +kernel
theorem dX7_goUp_78 : decode cX7_goUp 78 = .ok (.getfield 37, 3) := by decide +kernel
theorem dX7_goUp_81 : decode cX7_goUp 81 = .ok (.aload_n 0, 1) := by decide +kernel
theorem dX7_goUp_82 : decode cX7_goUp 82 = .ok (.getfield 37, 3) := by decide +kernel
theorem dX7_goUp_85 : decode cX7_goUp 85 = .ok (.invokevirtual 105, 3) := by decide +kernel
theorem dX7_goUp_88 : decode cX7_goUp 88 = .ok (.goto 24, 3) := by decide +kernel
theorem dX7_goUp_91 : decode cX7_goUp 91 = .ok (.aload_n 0, 1) := by decide +kernel
theorem dX7_goUp_92 : decode cX7_goUp 92 = .ok (.getfield 30, 3) := by decide +kernel
theorem dX7_goUp_95 : decode cX7_goUp 95 = .ok (.aload_n 0, 1) := by decide +kernel
theorem dX7_goUp_96 : decode cX7_goUp 96 = .ok (.getfield 37, 3) := by decide +kernel
theorem dX7_goUp_99 : decode cX7_goUp 99 = .ok (.aload_n 0, 1) := by decide +kernel
theorem dX7_goUp_100 : decode cX7_goUp 100 = .ok (.getfield 11, 3) := by decide +kernel
theorem dX7_goUp_103 : decode cX7_goUp 103 = .ok (.iload_n 2, 1) := by decide +kernel
theorem dX7_goUp_104 : decode cX7_goUp 104 = .ok (.aaload, 1) := by decide +kernel
theorem dX7_goUp_105 : decode cX7_goUp 105 = .ok (.aload_n 0, 1) := by decide +kernel
theorem dX7_goUp_106 : decode cX7_goUp 106 = .ok (.getfield 37, 3) := by decide +kernel
theorem dX7_goUp_109 : decode cX7_goUp 109 = .ok (.invokevirtual 105, 3) := by decide +kernel
theorem dX7_goUp_112 : decode cX7_goUp 112 = .ok (.iinc 2 1, 3) := by decide +kernel
theorem dX7_goUp_115 : decode cX7_goUp 115 = .ok (.iinc 3 (-1), 3) := by decide +kernel
theorem dX7_goUp_118 : decode cX7_goUp 118 = .ok (.goto (-85), 3) := by decide +kernel
theorem dX7_goUp_121 : decode cX7_goUp 121 = .ok (.return_, 1) := by decide +kernel
theorem dX8_init_0 : decode cX8_init 0 = .ok (.aload_n 0, 1) := by decide +kernel
theorem dX8_init_1 : decode cX8_init 1 = .ok (.invokespecial 3, 3) := by decide +kernel
theorem dX8_init_4 : decode cX8_init 4 = .ok (.aload_n 0, 1) := by decide +kernel
theorem dX8_init_5 : decode cX8_init 5 = .ok (.new 9, 3) := by decide +kernel
theorem dX8_init_8 : decode cX8_init 8 = .ok (.dup, 1) := by decide +kernel
theorem dX8_init_9 : decode cX8_init 9 = .ok (.invokespecial 11, 3) := by decide +kernel
theorem dX8_init_12 : decode cX8_init 12 = .ok (.putfield 12, 3) := by decide +kernel
theorem dX8_init_15 : decode cX8_init 15 = .ok (.aload_n 0, 1) := by decide +kernel
theorem dX8_init_16 : decode cX8_init 16 = .ok (.new 16, 3) := by decide +kernel
theorem dX8_init_19 : decode cX8_init 19 = .ok (.dup, 1) := by decide +kernel
theorem dX8_init_20 : decode cX8_init 20 = .ok (.invokespecial 18, 3) := by decide +kernel
theorem dX8_init_23 : decode cX8_init 23 = .ok (.putfield 19, 3) := by decide +kernel
theorem dX8_init_26 : decode cX8_init 26 = .ok (.aload_n 0, 1) := by decide +kernel
theorem dX8_init_27 : decode cX8_init 27 = .ok (.sipush 201, 3) := by decide +kernel
theorem dX8_init_30 : decode cX8_init 30 = .ok (.newarray .int, 2) := by decide +kernel
theorem dX8_init_32 : decode cX8_init 32 = .ok (.putfield 23, 3) := by decide +kernel
theorem dX8_init_35 : decode cX8_init 35 = .ok (.iconst 0, 1) := by decide +kernel
theorem dX8_init_36 : decode cX8_init 36 = .ok (.istore_n 1, 1) := by decide +kernel
theorem dX8_init_37 : decode cX8_init 37 = .ok (.iload_n 1, 1) := by decide +kernel
theorem dX8_init_38 : decode cX8_init 38 = .ok (.sipush 200, 3) := by decide +kernel
theorem dX8_init_41 : decode cX8_init 41 = .ok (.if_icmp .gt 16, 3) := by decide +kernel
theorem dX8_init_44 : decode cX8_init 44 = .ok (.aload_n 0, 1) := by decide +kernel
theorem dX8_init_45 : decode cX8_init 45 = .ok (.getfield 23, 3) := by decide +kernel
theorem dX8_init_48 : decode cX8_init 48 = .ok (.iload_n 1, 1) := by decide +kernel
theorem dX8_init_49 : decode cX8_init 49 = .ok (.iconst (-1), 1) := by decide +kernel
theorem dX8_init_50 : decode cX8_init 50 = .ok (.iastore, 1) := by decide +kernel
theorem dX8_init_51 : decode cX8_init 51 = .ok (.iinc 1 1, 3) := by decide +kernel
theorem dX8_init_54 : decode cX8_init 54 = .ok (.goto (-17), 3) := by decide +kernel
theorem dX8_init_57 : decode cX8_init 57 = .ok (.aload_n 0, 1) := by decide +kernel
theorem dX8_init_58 : decode cX8_init 58 = .ok (.new 27, 3) := by decide +kernel
theorem dX8_init_61 : decode cX8_init 61 = .ok (.dup, 1) := by decide +kernel
theorem dX8_init_62 : decode cX8_init 62 = .ok (.invokespecial 29, 3) := by decide +kernel
theorem dX8_init_65 : decode cX8_init 65 = .ok (.putfield 30, 3) := by decide +kernel
theorem dX8_init_68 : decode cX8_init 68 = .ok (.aload_n 0, 1) := by decide +kernel
theorem dX8_init_69 : decode cX8_init 69 = .ok (.bipush 8, 2) := by decide +kernel
theorem dX8_init_71 : decode cX8_init 71 = .ok (.anewarray 34, 3) := by decide +kernel
theorem dX8_init_74 : decode cX8_init 74 = .ok (.putfield 36, 3) := by decide +kernel
theorem dX8_init_77 : decode cX8_init 77 = .ok (.iconst 0, 1) := by decide +kernel
theorem dX8_init_78 : decode cX8_init 78 = .ok (.istore_n 1, 1) := by decide +kernel
theorem dX8_init_79 : decode cX8_init 79 = .ok (.iload_n 1, 1) := by decide +kernel
theorem dX8_init_80 : decode cX8_init 80 = .ok (.bipush 8, 2) := by decide +kernel
theorem dX8_init_82 : decode cX8_init 82 = .ok (.if_icmp .ge 22, 3) := by decide +kernel
theorem dX8_init_85 : decode cX8_init 85 = .ok (.aload_n 0, 1) := by decide +kernel
theorem dX8_init_86 : decode cX8_init 86 = .ok (.getfield 36, 3) := by decide +kernel
theorem dX8_init_89 : decode cX8_init 89 = .ok (.iload_n 1, 1) := by decide +kernel
theorem dX8_init_90 : decode cX8_init 90 = .ok (.new 34, 3) := by decide +kernel
theorem dX8_init_93 : decode cX8_init 93 = .ok (.dup, 1) := by decide +kernel
theorem dX8_init_94 : decode cX8_init 94 = .ok (.invokespecial 40, 3) := by decide +kernel
theorem dX8_init_97 : decode cX8_init 97 = .ok (.aastore, 1) := by decide +kernel
theorem dX8_init_98 : decode cX8_init 98 = .ok (.iinc 1 1, 3) := by decide +kernel
theorem dX8_init_101 : decode cX8_init 101 = .ok (.goto (-22), 3) := by decide +kernel
theorem dX8_init_104 : decode cX8_init 104 = .ok (.aload_n 0, 1) := by decide +kernel
theorem dX8_init_105 : decode cX8_init 105 = .ok (.new 41, 3) := by decide +kernel
theorem dX8_init_108 : decode cX8_init 108 = .ok (.dup, 1) := by decide +kernel
theorem dX8_init_109 : decode cX8_init 109 = .ok (.invokespecial 43, 3) := by decide +kernel
theorem dX8_init_112 : decode cX8_init 112 = .ok (.putfield 44, 3) := by decide +kernel
theorem dX8_init_115 : decode cX8_init 115 = .ok (.aload_n 0, 1) := by decide +kernel
theorem dX8_init_116 : decode cX8_init 116 = .ok (.new 48, 3) := by decide +kernel
theorem dX8_init_119 : decode cX8_init 119 = .ok (.dup, 1) := by decide +kernel
theorem dX8_init_120 : decode cX8_init 120 = .ok (.invokespecial 50, 3) := by decide +kernel
theorem dX8_init_123 : decode cX8_init 123 = .ok (.putfield 51, 3) := by decide +kernel
theorem dX8_init_126 : decode cX8_init 126 = .ok (.aload_n 0, 1) := by decide +kernel
theorem dX8_init_127 : decode cX8_init 127 = .ok (.bipush 8, 2) := by decide +kernel
theorem dX8_init_129 : decode cX8_init 129 = .ok (.newarray .int, 2) := by decide +kernel
theorem dX8_init_131 : decode cX8_init 131 = .ok (.putfield 55, 3) := by decide +kernel
theorem dX8_init_134 : decode cX8_init 134 = .ok (.return_, 1) := by decide +kernel
theorem dX8_open_0 : decode cX8_open 0 = .ok (.aload_n 0, 1) := by decide +kernel
theorem dX8_open_1 : decode cX8_open 1 = .ok (.aload_n 0, 1) := by decide +kernel
theorem dX8_open_2 : decode cX8_open 2 = .ok (.getfield 12, 3) := by decide +kernel
theorem dX8_open_5 : decode cX8_open 5 = .ok (.lload_n 1, 1) := by decide +kernel
theorem dX8_open_6 : decode cX8_open 6 = .ok (.invokevirtual 58, 3) := by decide +kernel
theorem dX8_open_9 : decode cX8_open 9 = .ok (.invokevirtual 62, 3) := by decide +kernel
theorem dX8_open_12 : decode cX8_open 12 = .ok (.ireturn, 1) := by decide +kernel
theorem dX8_leg_0 : decode cX8_leg 0 = .ok (.aload_n 0, 1) := by decide +kernel
theorem dX8_leg_1 : decode cX8_leg 1 = .ok (.getfield 19, 3) := by decide +kernel
theorem dX8_leg_4 : decode cX8_leg 4 = .ok (.iload_n 1, 1) := by decide +kernel
theorem dX8_leg_5 : decode cX8_leg 5 = .ok (.lload_n 2, 1) := by decide +kernel
theorem dX8_leg_6 : decode cX8_leg 6 = .ok (.invokevirtual 66, 3) := by decide +kernel
theorem dX8_leg_9 : decode cX8_leg 9 = .ok (.ifCond .eq 13, 3) := by decide +kernel
theorem dX8_leg_12 : decode cX8_leg 12 = .ok (.aload_n 0, 1) := by decide +kernel
theorem dX8_leg_13 : decode cX8_leg 13 = .ok (.getfield 19, 3) := by decide +kernel
theorem dX8_leg_16 : decode cX8_leg 16 = .ok (.getfield 70, 3) := by decide +kernel
theorem dX8_leg_19 : decode cX8_leg 19 = .ok (.goto 4, 3) := by decide +kernel
theorem dX8_leg_22 : decode cX8_leg 22 = .ok (.iconst (-1), 1) := by decide +kernel
theorem dX8_leg_23 : decode cX8_leg 23 = .ok (.ireturn, 1) := by decide +kernel
theorem dX8_clear_0 : decode cX8_clear 0 = .ok (.aload_n 0, 1) := by decide +kernel
theorem dX8_clear_1 : decode cX8_clear 1 = .ok (.getfield 19, 3) := by decide +kernel
theorem dX8_clear_4 : decode cX8_clear 4 = .ok (.getfield 70, 3) := by decide +kernel
theorem dX8_clear_7 : decode cX8_clear 7 = .ok (.istore_n 1, 1) := by decide +kernel
theorem dX8_clear_8 : decode cX8_clear 8 = .ok (.aload_n 0, 1) := by decide +kernel
theorem dX8_clear_9 : decode cX8_clear 9 = .ok (.getfield 19, 3) := by decide +kernel
theorem dX8_clear_12 : decode cX8_clear 12 = .ok (.iconst 0, 1) := by decide +kernel
theorem dX8_clear_13 : decode cX8_clear 13 = .ok (.putfield 70, 3) := by decide +kernel
theorem dX8_clear_16 : decode cX8_clear 16 = .ok (.iload_n 1, 1) := by decide +kernel
theorem dX8_clear_17 : decode cX8_clear 17 = .ok (.ireturn, 1) := by decide +kernel
theorem dX8_post_0 : decode cX8_post 0 = .ok (.aload_n 0, 1) := by decide +kernel
theorem dX8_post_1 : decode cX8_post 1 = .ok (.getfield 12, 3) := by decide +kernel
theorem dX8_post_4 : decode cX8_post 4 = .ok (.lload_n 1, 1) := by decide +kernel
theorem dX8_post_5 : decode cX8_post 5 = .ok (.aload_n 0, 1) := by decide +kernel
theorem dX8_post_6 : decode cX8_post 6 = .ok (.getfield 19, 3) := by decide +kernel
theorem dX8_post_9 : decode cX8_post 9 = .ok (.invokevirtual 74, 3) := by decide +kernel
theorem dX8_post_12 : decode cX8_post 12 = .ok (.istore_n 3, 1) := by decide +kernel
theorem dX8_post_13 : decode cX8_post 13 = .ok (.iload_n 3, 1) := by decide +kernel
theorem dX8_post_14 : decode cX8_post 14 = .ok (.ifCond .lt 11, 3) := by decide +kernel
theorem dX8_post_17 : decode cX8_post 17 = .ok (.aload_n 0, 1) := by decide +kernel
theorem dX8_post_18 : decode cX8_post 18 = .ok (.getfield 19, 3) := by decide +kernel
theorem dX8_post_21 : decode cX8_post 21 = .ok (.iconst 0, 1) := by decide +kernel
theorem dX8_post_22 : decode cX8_post 22 = .ok (.putfield 70, 3) := by decide +kernel
theorem dX8_post_25 : decode cX8_post 25 = .ok (.aload_n 0, 1) := by decide +kernel
theorem dX8_post_26 : decode cX8_post 26 = .ok (.iload_n 3, 1) := by decide +kernel
theorem dX8_post_27 : decode cX8_post 27 = .ok (.invokevirtual 62, 3) := by decide +kernel
theorem dX8_post_30 : decode cX8_post 30 = .ok (.ireturn, 1) := by decide +kernel
theorem dX8_hold_0 : decode cX8_hold 0 = .ok (.aload_n 0, 1) := by decide +kernel
theorem dX8_hold_1 : decode cX8_hold 1 = .ok (.aload_n 0, 1) := by decide +kernel
theorem dX8_hold_2 : decode cX8_hold 2 = .ok (.getfield 12, 3) := by decide +kernel
theorem dX8_hold_5 : decode cX8_hold 5 = .ok (.lload_n 1, 1) := by decide +kernel
theorem dX8_hold_6 : decode cX8_hold 6 = .ok (.iload_n 3, 1) := by decide +kernel
theorem dX8_hold_7 : decode cX8_hold 7 = .ok (.lload 4, 2) := by decide +kernel
theorem dX8_hold_9 : decode cX8_hold 9 = .ok (.invokevirtual 78, 3) := by decide +kernel
theorem dX8_hold_12 : decode cX8_hold 12 = .ok (.invokevirtual 62, 3) := by decide +kernel
theorem dX8_hold_15 : decode cX8_hold 15 = .ok (.ireturn, 1) := by decide +kernel
theorem dX8_release_0 : decode cX8_release 0 = .ok (.aload_n 0, 1) := by decide +kernel
theorem dX8_release_1 : decode cX8_release 1 = .ok (.aload_n 0, 1) := by decide +kernel
theorem dX8_release_2 : decode cX8_release 2 = .ok (.getfield 12, 3) := by decide +kernel
theorem dX8_release_5 : decode cX8_release 5 = .ok (.iload_n 1, 1) := by decide +kernel
theorem dX8_release_6 : decode cX8_release 6 = .ok (.invokevirtual 82, 3) := by decide +kernel
theorem dX8_release_9 : decode cX8_release 9 = .ok (.invokevirtual 62, 3) := by decide +kernel
theorem dX8_release_12 : decode cX8_release 12 = .ok (.ireturn, 1) := by decide +kernel
theorem dX8_capture_0 : decode cX8_capture 0 = .ok (.aload_n 0, 1) := by decide +kernel
theorem dX8_capture_1 : decode cX8_capture 1 = .ok (.aload_n 0, 1) := by decide +kernel
theorem dX8_capture_2 : decode cX8_capture 2 = .ok (.getfield 12, 3) := by decide +kernel
theorem dX8_capture_5 : decode cX8_capture 5 = .ok (.lload_n 1, 1) := by decide +kernel
theorem dX8_capture_6 : decode cX8_capture 6 = .ok (.iload_n 3, 1) := by decide +kernel
theorem dX8_capture_7 : decode cX8_capture 7 = .ok (.iload 4, 2) := by decide +kernel
theorem dX8_capture_9 : decode cX8_capture 9 = .ok (.lload 5, 2) := by decide +kernel
theorem dX8_capture_11 : decode cX8_capture 11 = .ok (.invokevirtual 85, 3) := by decide +kernel
theorem dX8_capture_14 : decode cX8_capture 14 = .ok (.invokevirtual 62, 3) := by decide +kernel
theorem dX8_capture_17 : decode cX8_capture 17 = .ok (.ireturn, 1) := by decide +kernel
theorem dX8_reverse_0 : decode cX8_reverse 0 = .ok (.aload_n 0, 1) := by decide +kernel
theorem dX8_reverse_1 : decode cX8_reverse 1 = .ok (.aload_n 0, 1) := by decide +kernel
theorem dX8_reverse_2 : decode cX8_reverse 2 = .ok (.getfield 12, 3) := by decide +kernel
theorem dX8_reverse_5 : decode cX8_reverse 5 = .ok (.lload_n 1, 1) := by decide +kernel
theorem dX8_reverse_6 : decode cX8_reverse 6 = .ok (.iload_n 3, 1) := by decide +kernel
theorem dX8_reverse_7 : decode cX8_reverse 7 = .ok (.invokevirtual 89, 3) := by decide +kernel
theorem dX8_reverse_10 : decode cX8_reverse 10 = .ok (.invokevirtual 62, 3) := by decide +kernel
theorem dX8_reverse_13 : decode cX8_reverse 13 = .ok (.ireturn, 1) := by decide +kernel
theorem dX8_every_0 : decode cX8_every 0 = .ok (.iload_n 1, 1) := by decide +kernel
theorem dX8_every_1 : decode cX8_every 1 = .ok (.ifCond .lt 9, 3) := by decide +kernel
theorem dX8_every_4 : decode cX8_every 4 = .ok (.iload_n 1, 1) := by decide +kernel
theorem dX8_every_5 : decode cX8_every 5 = .ok (.bipush 50, 2) := by decide +kernel
theorem dX8_every_7 : decode cX8_every 7 = .ok (.if_icmp .le 5, 3) := by decide +kernel
theorem dX8_every_10 : decode cX8_every 10 = .ok (.iconst (-1), 1) := by decide +kernel
theorem dX8_every_11 : decode cX8_every 11 = .ok (.ireturn, 1) := by decide +kernel
theorem dX8_every_12 : decode cX8_every 12 = .ok (.aload_n 0, 1) := by decide +kernel
theorem dX8_every_13 : decode cX8_every 13 = .ok (.getfield 12, 3) := by decide +kernel
theorem dX8_every_16 : decode cX8_every 16 = .ok (.getfield 93, 3) := by decide +kernel
theorem dX8_every_19 : decode cX8_every 19 = .ok (.istore_n 2, 1) := by decide +kernel
theorem dX8_every_20 : decode cX8_every 20 = .ok (.aload_n 0, 1) := by decide +kernel
theorem dX8_every_21 : decode cX8_every 21 = .ok (.getfield 12, 3) := by decide +kernel
theorem dX8_every_24 : decode cX8_every 24 = .ok (.iload_n 1, 1) := by decide +kernel
theorem dX8_every_25 : decode cX8_every 25 = .ok (.invokevirtual 96, 3) := by decide +kernel
theorem dX8_every_28 : decode cX8_every 28 = .ok (.aload_n 0, 1) := by decide +kernel
theorem dX8_every_29 : decode cX8_every 29 = .ok (.getfield 23, 3) := by decide +kernel
theorem dX8_every_32 : decode cX8_every 32 = .ok (.aload_n 0, 1) := by decide +kernel
theorem dX8_every_33 : decode cX8_every 33 = .ok (.getfield 12, 3) := by decide +kernel
theorem dX8_every_36 : decode cX8_every 36 = .ok (.getfield 100, 3) := by decide +kernel
theorem dX8_every_39 : decode cX8_every 39 = .ok (.iload_n 1, 1) := by decide +kernel
theorem dX8_every_40 : decode cX8_every 40 = .ok (.iastore, 1) := by decide +kernel
theorem dX8_every_41 : decode cX8_every 41 = .ok (.iload_n 2, 1) := by decide +kernel
theorem dX8_every_42 : decode cX8_every 42 = .ok (.ireturn, 1) := by decide +kernel
theorem dX8_account_0 : decode cX8_account 0 = .ok (.iload_n 1, 1) := by decide +kernel
theorem dX8_account_1 : decode cX8_account 1 = .ok (.ifCond .lt 14, 3) := by decide +kernel
theorem dX8_account_4 : decode cX8_account 4 = .ok (.iload_n 1, 1) := by decide +kernel
theorem dX8_account_5 : decode cX8_account 5 = .ok (.aload_n 0, 1) := by decide +kernel
theorem dX8_account_6 : decode cX8_account 6 = .ok (.getfield 12, 3) := by decide +kernel
theorem dX8_account_9 : decode cX8_account 9 = .ok (.getfield 103, 3) := by decide +kernel
theorem dX8_account_12 : decode cX8_account 12 = .ok (.if_icmp .lt 7, 3) := by decide +kernel
theorem dX8_account_15 : decode cX8_account 15 = .ok (.ldc2_w 106, 3) := by decide +kernel
theorem dX8_account_18 : decode cX8_account 18 = .ok (.lreturn, 1) := by decide +kernel
theorem dX8_account_19 : decode cX8_account 19 = .ok (.iload_n 2, 1) := by decide +kernel
theorem dX8_account_20 : decode cX8_account 20 = .ok (.tableswitch 58 0 2 #[28, 38, 48], 28) := by decide +kernel
theorem dX8_account_48 : decode cX8_account 48 = .ok (.aload_n 0, 1) := by decide +kernel
theorem dX8_account_49 : decode cX8_account 49 = .ok (.getfield 12, 3) := by decide +kernel
theorem dX8_account_52 : decode cX8_account 52 = .ok (.getfield 108, 3) := by decide +kernel
theorem dX8_account_55 : decode cX8_account 55 = .ok (.iload_n 1, 1) := by decide +kernel
theorem dX8_account_56 : decode cX8_account 56 = .ok (.laload, 1) := by decide +kernel
theorem dX8_account_57 : decode cX8_account 57 = .ok (.lreturn, 1) := by decide +kernel
theorem dX8_account_58 : decode cX8_account 58 = .ok (.aload_n 0, 1) := by decide +kernel
theorem dX8_account_59 : decode cX8_account 59 = .ok (.getfield 12, 3) := by decide +kernel
theorem dX8_account_62 : decode cX8_account 62 = .ok (.getfield 112, 3) := by decide +kernel
theorem dX8_account_65 : decode cX8_account 65 = .ok (.iload_n 1, 1) := by decide +kernel
theorem dX8_account_66 : decode cX8_account 66 = .ok (.laload, 1) := by decide +kernel
theorem dX8_account_67 : decode cX8_account 67 = .ok (.lreturn, 1) := by decide +kernel
theorem dX8_account_68 : decode cX8_account 68 = .ok (.aload_n 0, 1) := by decide +kernel
theorem dX8_account_69 : decode cX8_account 69 = .ok (.getfield 12, 3) := by decide +kernel
theorem dX8_account_72 : decode cX8_account 72 = .ok (.getfield 115, 3) := by decide +kernel
theorem dX8_account_75 : decode cX8_account 75 = .ok (.iload_n 1, 1) := by decide +kernel
theorem dX8_account_76 : decode cX8_account 76 = .ok (.laload, 1) := by decide +kernel
theorem dX8_account_77 : decode cX8_account 77 = .ok (.lreturn, 1) := by decide +kernel
theorem dX8_account_78 : decode cX8_account 78 = .ok (.ldc2_w 106, 3) := by decide +kernel
theorem dX8_account_81 : decode cX8_account 81 = .ok (.lreturn, 1) := by decide +kernel
theorem dX8_entry_0 : decode cX8_entry 0 = .ok (.iload_n 1, 1) := by decide +kernel
theorem dX8_entry_1 : decode cX8_entry 1 = .ok (.ifCond .lt 14, 3) := by decide +kernel
theorem dX8_entry_4 : decode cX8_entry 4 = .ok (.iload_n 1, 1) := by decide +kernel
theorem dX8_entry_5 : decode cX8_entry 5 = .ok (.aload_n 0, 1) := by decide +kernel
theorem dX8_entry_6 : decode cX8_entry 6 = .ok (.getfield 12, 3) := by decide +kernel
theorem dX8_entry_9 : decode cX8_entry 9 = .ok (.getfield 100, 3) := by decide +kernel
theorem dX8_entry_12 : decode cX8_entry 12 = .ok (.if_icmp .lt 7, 3) := by decide +kernel
theorem dX8_entry_15 : decode cX8_entry 15 = .ok (.ldc2_w 106, 3) := by decide +kernel
theorem dX8_entry_18 : decode cX8_entry 18 = .ok (.lreturn, 1) := by decide +kernel
theorem dX8_entry_19 : decode cX8_entry 19 = .ok (.iload_n 2, 1) := by decide +kernel
theorem dX8_entry_20 : decode cX8_entry 20 = .ok (.tableswitch 116 0 5 #[40, 50, 73, 84, 94, 105], 40) := by decide +kernel
theorem dX8_entry_60 : decode cX8_entry 60 = .ok (.aload_n 0, 1) := by decide +kernel
theorem dX8_entry_61 : decode cX8_entry 61 = .ok (.getfield 12, 3) := by decide +kernel
theorem dX8_entry_64 : decode cX8_entry 64 = .ok (.iload_n 1, 1) := by decide +kernel
theorem dX8_entry_65 : decode cX8_entry 65 = .ok (.invokevirtual 118, 3) := by decide +kernel
theorem dX8_entry_68 : decode cX8_entry 68 = .ok (.i2l, 1) := by decide +kernel
theorem dX8_entry_69 : decode cX8_entry 69 = .ok (.lreturn, 1) := by decide +kernel
theorem dX8_entry_70 : decode cX8_entry 70 = .ok (.aload_n 0, 1) := by decide +kernel
theorem dX8_entry_71 : decode cX8_entry 71 = .ok (.getfield 12, 3) := by decide +kernel
theorem dX8_entry_74 : decode cX8_entry 74 = .ok (.getfield 121, 3) := by decide +kernel
theorem dX8_entry_77 : decode cX8_entry 77 = .ok (.iload_n 1, 1) := by decide +kernel
theorem dX8_entry_78 : decode cX8_entry 78 = .ok (.iconst 1, 1) := by decide +kernel
theorem dX8_entry_79 : decode cX8_entry 79 = .ok (.iadd, 1) := by decide +kernel
theorem dX8_entry_80 : decode cX8_entry 80 = .ok (.iaload, 1) := by decide +kernel
theorem dX8_entry_81 : decode cX8_entry 81 = .ok (.aload_n 0, 1) := by decide +kernel
theorem dX8_entry_82 : decode cX8_entry 82 = .ok (.getfield 12, 3) := by decide +kernel
theorem dX8_entry_85 : decode cX8_entry 85 = .ok (.getfield 121, 3) := by decide +kernel
theorem dX8_entry_88 : decode cX8_entry 88 = .ok (.iload_n 1, 1) := by decide +kernel
theorem dX8_entry_89 : decode cX8_entry 89 = .ok (.iaload, 1) := by decide +kernel
theorem dX8_entry_90 : decode cX8_entry 90 = .ok (.isub, 1) := by decide +kernel
theorem dX8_entry_91 : decode cX8_entry 91 = .ok (.i2l, 1) := by decide +kernel
theorem dX8_entry_92 : decode cX8_entry 92 = .ok (.lreturn, 1) := by decide +kernel
theorem dX8_entry_93 : decode cX8_entry 93 = .ok (.aload_n 0, 1) := by decide +kernel
theorem dX8_entry_94 : decode cX8_entry 94 = .ok (.getfield 12, 3) := by decide +kernel
theorem dX8_entry_97 : decode cX8_entry 97 = .ok (.getfield 121, 3) := by decide +kernel
theorem dX8_entry_100 : decode cX8_entry 100 = .ok (.iload_n 1, 1) := by decide +kernel
theorem dX8_entry_101 : decode cX8_entry 101 = .ok (.iaload, 1) := by decide +kernel
theorem dX8_entry_102 : decode cX8_entry 102 = .ok (.i2l, 1) := by decide +kernel
theorem dX8_entry_103 : decode cX8_entry 103 = .ok (.lreturn, 1) := by decide +kernel
theorem dX8_entry_104 : decode cX8_entry 104 = .ok (.aload_n 0, 1) := by decide +kernel
theorem dX8_entry_105 : decode cX8_entry 105 = .ok (.getfield 12, 3) := by decide +kernel
theorem dX8_entry_108 : decode cX8_entry 108 = .ok (.getfield 124, 3) := by decide +kernel
theorem dX8_entry_111 : decode cX8_entry 111 = .ok (.iload_n 1, 1) := by decide +kernel
theorem dX8_entry_112 : decode cX8_entry 112 = .ok (.laload, 1) := by decide +kernel
theorem dX8_entry_113 : decode cX8_entry 113 = .ok (.lreturn, 1) := by decide +kernel
theorem dX8_entry_114 : decode cX8_entry 114 = .ok (.aload_n 0, 1) := by decide +kernel
theorem dX8_entry_115 : decode cX8_entry 115 = .ok (.getfield 12, 3) := by decide +kernel
theorem dX8_entry_118 : decode cX8_entry 118 = .ok (.getfield 127, 3) := by decide +kernel
theorem dX8_entry_121 : decode cX8_entry 121 = .ok (.iload_n 1, 1) := by decide +kernel
theorem dX8_entry_122 : decode cX8_entry 122 = .ok (.iaload, 1) := by decide +kernel
theorem dX8_entry_123 : decode cX8_entry 123 = .ok (.i2l, 1) := by decide +kernel
theorem dX8_entry_124 : decode cX8_entry 124 = .ok (.lreturn, 1) := by decide +kernel
theorem dX8_entry_125 : decode cX8_entry 125 = .ok (.aload_n 0, 1) := by decide +kernel
theorem dX8_entry_126 : decode cX8_entry 126 = .ok (.getfield 12, 3) := by decide +kernel
theorem dX8_entry_129 : decode cX8_entry 129 = .ok (.getfield 130, 3) := by decide +kernel
theorem dX8_entry_132 : decode cX8_entry 132 = .ok (.iload_n 1, 1) := by decide +kernel
theorem dX8_entry_133 : decode cX8_entry 133 = .ok (.iaload, 1) := by decide +kernel
theorem dX8_entry_134 : decode cX8_entry 134 = .ok (.i2l, 1) := by decide +kernel
theorem dX8_entry_135 : decode cX8_entry 135 = .ok (.lreturn, 1) := by decide +kernel
theorem dX8_entry_136 : decode cX8_entry 136 = .ok (.aload_n 0, 1) := by decide +kernel
theorem dX8_entry_137 : decode cX8_entry 137 = .ok (.iload_n 1, 1) := by decide +kernel
theorem dX8_entry_138 : decode cX8_entry 138 = .ok (.iload_n 2, 1) := by decide +kernel
theorem dX8_entry_139 : decode cX8_entry 139 = .ok (.invokevirtual 133, 3) := by decide +kernel
theorem dX8_entry_142 : decode cX8_entry 142 = .ok (.lreturn, 1) := by decide +kernel
theorem dX8_data_0 : decode cX8_data 0 = .ok (.iload_n 1, 1) := by decide +kernel
theorem dX8_data_1 : decode cX8_data 1 = .ok (.ifCond .lt 30, 3) := by decide +kernel
theorem dX8_data_4 : decode cX8_data 4 = .ok (.iload_n 1, 1) := by decide +kernel
theorem dX8_data_5 : decode cX8_data 5 = .ok (.aload_n 0, 1) := by decide +kernel
theorem dX8_data_6 : decode cX8_data 6 = .ok (.getfield 30, 3) := by decide +kernel
theorem dX8_data_9 : decode cX8_data 9 = .ok (.invokevirtual 137, 3) := by decide +kernel
theorem dX8_data_12 : decode cX8_data 12 = .ok (.if_icmp .ge 19, 3) := by decide +kernel
theorem dX8_data_15 : decode cX8_data 15 = .ok (.aload_n 0, 1) := by decide +kernel
theorem dX8_data_16 : decode cX8_data 16 = .ok (.getfield 30, 3) := by decide +kernel
theorem dX8_data_19 : decode cX8_data 19 = .ok (.getfield 140, 3) := by decide +kernel
theorem dX8_data_22 : decode cX8_data 22 = .ok (.iload_n 1, 1) := by decide +kernel
theorem dX8_data_23 : decode cX8_data 23 = .ok (.baload, 1) := by decide +kernel
theorem dX8_data_24 : decode cX8_data 24 = .ok (.sipush 255, 3) := by decide +kernel
theorem dX8_data_27 : decode cX8_data 27 = .ok (.iand, 1) := by decide +kernel
theorem dX8_data_28 : decode cX8_data 28 = .ok (.goto 4, 3) := by decide +kernel
theorem dX8_data_31 : decode cX8_data 31 = .ok (.iconst (-1), 1) := by decide +kernel
theorem dX8_data_32 : decode cX8_data 32 = .ok (.ireturn, 1) := by decide +kernel
theorem dX8_alter_0 : decode cX8_alter 0 = .ok (.iload_n 1, 1) := by decide +kernel
theorem dX8_alter_1 : decode cX8_alter 1 = .ok (.ifCond .lt 26, 3) := by decide +kernel
theorem dX8_alter_4 : decode cX8_alter 4 = .ok (.iload_n 1, 1) := by decide +kernel
end
section
theorem dX8_alter_5 : decode cX8_alter 5 = .ok (.aload_n 0, 1) := by decide +kernel
theorem dX8_alter_6 : decode cX8_alter 6 = .ok (.getfield 30, 3) := by decide +kernel
theorem dX8_alter_9 : decode cX8_alter 9 = .ok (.invokevirtual 137, 3) := by decide +kernel
theorem dX8_alter_12 : decode cX8_alter 12 = .ok (.if_icmp .ge 15, 3) := by decide +kernel
theorem dX8_alter_15 : decode cX8_alter 15 = .ok (.iload_n 2, 1) := by decide +kernel
theorem dX8_alter_16 : decode cX8_alter 16 = .ok (.iconst 1, 1) := by decide +kernel
theorem dX8_alter_17 : decode cX8_alter 17 = .ok (.if_icmp .lt 10, 3) := by decide +kernel
theorem dX8_alter_20 : decode cX8_alter 20 = .ok (.iload_n 2, 1) := by decide +kernel
theorem dX8_alter_21 : decode cX8_alter 21 = .ok (.sipush 255, 3) := by decide +kernel
theorem dX8_alter_24 : decode cX8_alter 24 = .ok (.if_icmp .le 5, 3) := by decide +kernel
theorem dX8_alter_27 : decode cX8_alter 27 = .ok (.iconst (-1), 1) := by decide +kernel
theorem dX8_alter_28 : decode cX8_alter 28 = .ok (.ireturn, 1) := by decide +kernel
theorem dX8_alter_29 : decode cX8_alter 29 = .ok (.aload_n 0, 1) := by decide +kernel
theorem dX8_alter_30 : decode cX8_alter 30 = .ok (.getfield 30, 3) := by decide +kernel
theorem dX8_alter_33 : decode cX8_alter 33 = .ok (.iload_n 1, 1) := by decide +kernel
theorem dX8_alter_34 : decode cX8_alter 34 = .ok (.iload_n 2, 1) := by decide +kernel
theorem dX8_alter_35 : decode cX8_alter 35 = .ok (.invokevirtual 144, 3) := by decide +kernel
theorem dX8_alter_38 : decode cX8_alter 38 = .ok (.aload_n 0, 1) := by decide +kernel
theorem dX8_alter_39 : decode cX8_alter 39 = .ok (.getfield 30, 3) := by decide +kernel
theorem dX8_alter_42 : decode cX8_alter 42 = .ok (.getfield 140, 3) := by decide +kernel
theorem dX8_alter_45 : decode cX8_alter 45 = .ok (.iload_n 1, 1) := by decide +kernel
theorem dX8_alter_46 : decode cX8_alter 46 = .ok (.baload, 1) := by decide +kernel
theorem dX8_alter_47 : decode cX8_alter 47 = .ok (.sipush 255, 3) := by decide +kernel
theorem dX8_alter_50 : decode cX8_alter 50 = .ok (.iand, 1) := by decide +kernel
theorem dX8_alter_51 : decode cX8_alter 51 = .ok (.ireturn, 1) := by decide +kernel
theorem dX8_hash_0 : decode cX8_hash 0 = .ok (.iload_n 2, 1) := by decide +kernel
theorem dX8_hash_1 : decode cX8_hash 1 = .ok (.ifCond .lt 24, 3) := by decide +kernel
theorem dX8_hash_4 : decode cX8_hash 4 = .ok (.iload_n 2, 1) := by decide +kernel
theorem dX8_hash_5 : decode cX8_hash 5 = .ok (.aload_n 0, 1) := by decide +kernel
theorem dX8_hash_6 : decode cX8_hash 6 = .ok (.getfield 30, 3) := by decide +kernel
theorem dX8_hash_9 : decode cX8_hash 9 = .ok (.getfield 148, 3) := by decide +kernel
theorem dX8_hash_12 : decode cX8_hash 12 = .ok (.if_icmp .gt 13, 3) := by decide +kernel
theorem dX8_hash_15 : decode cX8_hash 15 = .ok (.iload_n 3, 1) := by decide +kernel
theorem dX8_hash_16 : decode cX8_hash 16 = .ok (.ifCond .lt 9, 3) := by decide +kernel
theorem dX8_hash_19 : decode cX8_hash 19 = .ok (.iload_n 3, 1) := by decide +kernel
theorem dX8_hash_20 : decode cX8_hash 20 = .ok (.bipush 32, 2) := by decide +kernel
theorem dX8_hash_22 : decode cX8_hash 22 = .ok (.if_icmp .lt 5, 3) := by decide +kernel
theorem dX8_hash_25 : decode cX8_hash 25 = .ok (.iconst (-1), 1) := by decide +kernel
theorem dX8_hash_26 : decode cX8_hash 26 = .ok (.ireturn, 1) := by decide +kernel
theorem dX8_hash_27 : decode cX8_hash 27 = .ok (.iload_n 1, 1) := by decide +kernel
theorem dX8_hash_28 : decode cX8_hash 28 = .ok (.tableswitch 91 0 2 #[28, 41, 63], 28) := by decide +kernel
theorem dX8_hash_56 : decode cX8_hash 56 = .ok (.aload_n 0, 1) := by decide +kernel
theorem dX8_hash_57 : decode cX8_hash 57 = .ok (.getfield 30, 3) := by decide +kernel
theorem dX8_hash_60 : decode cX8_hash 60 = .ok (.iload_n 2, 1) := by decide +kernel
theorem dX8_hash_61 : decode cX8_hash 61 = .ok (.invokevirtual 149, 3) := by decide +kernel
theorem dX8_hash_64 : decode cX8_hash 64 = .ok (.iload_n 3, 1) := by decide +kernel
theorem dX8_hash_65 : decode cX8_hash 65 = .ok (.invokestatic 153, 3) := by decide +kernel
theorem dX8_hash_68 : decode cX8_hash 68 = .ok (.ireturn, 1) := by decide +kernel
theorem dX8_hash_69 : decode cX8_hash 69 = .ok (.aload_n 0, 1) := by decide +kernel
theorem dX8_hash_70 : decode cX8_hash 70 = .ok (.getfield 30, 3) := by decide +kernel
theorem dX8_hash_73 : decode cX8_hash 73 = .ok (.iconst 0, 1) := by decide +kernel
theorem dX8_hash_74 : decode cX8_hash 74 = .ok (.iload_n 2, 1) := by decide +kernel
theorem dX8_hash_75 : decode cX8_hash 75 = .ok (.aload_n 0, 1) := by decide +kernel
theorem dX8_hash_76 : decode cX8_hash 76 = .ok (.getfield 55, 3) := by decide +kernel
theorem dX8_hash_79 : decode cX8_hash 79 = .ok (.invokevirtual 157, 3) := by decide +kernel
theorem dX8_hash_82 : decode cX8_hash 82 = .ok (.aload_n 0, 1) := by decide +kernel
theorem dX8_hash_83 : decode cX8_hash 83 = .ok (.getfield 55, 3) := by decide +kernel
theorem dX8_hash_86 : decode cX8_hash 86 = .ok (.iload_n 3, 1) := by decide +kernel
theorem dX8_hash_87 : decode cX8_hash 87 = .ok (.invokestatic 153, 3) := by decide +kernel
theorem dX8_hash_90 : decode cX8_hash 90 = .ok (.ireturn, 1) := by decide +kernel
theorem dX8_hash_91 : decode cX8_hash 91 = .ok (.iload_n 2, 1) := by decide +kernel
theorem dX8_hash_92 : decode cX8_hash 92 = .ok (.aload_n 0, 1) := by decide +kernel
theorem dX8_hash_93 : decode cX8_hash 93 = .ok (.getfield 30, 3) := by decide +kernel
theorem dX8_hash_96 : decode cX8_hash 96 = .ok (.getfield 148, 3) := by decide +kernel
theorem dX8_hash_99 : decode cX8_hash 99 = .ok (.if_icmp .ge 18, 3) := by decide +kernel
theorem dX8_hash_102 : decode cX8_hash 102 = .ok (.aload_n 0, 1) := by decide +kernel
theorem dX8_hash_103 : decode cX8_hash 103 = .ok (.getfield 30, 3) := by decide +kernel
theorem dX8_hash_106 : decode cX8_hash 106 = .ok (.iload_n 2, 1) := by decide +kernel
theorem dX8_hash_107 : decode cX8_hash 107 = .ok (.invokevirtual 161, 3) := by decide +kernel
theorem dX8_hash_110 : decode cX8_hash 110 = .ok (.iload_n 3, 1) := by decide +kernel
theorem dX8_hash_111 : decode cX8_hash 111 = .ok (.invokestatic 153, 3) := by decide +kernel
theorem dX8_hash_114 : decode cX8_hash 114 = .ok (.goto 4, 3) := by decide +kernel
theorem dX8_hash_117 : decode cX8_hash 117 = .ok (.iconst (-1), 1) := by decide +kernel
theorem dX8_hash_118 : decode cX8_hash 118 = .ok (.ireturn, 1) := by decide +kernel
theorem dX8_hash_119 : decode cX8_hash 119 = .ok (.iconst (-1), 1) := by decide +kernel
theorem dX8_hash_120 : decode cX8_hash 120 = .ok (.ireturn, 1) := by decide +kernel
theorem dX8_keep_0 : decode cX8_keep 0 = .ok (.iload_n 1, 1) := by decide +kernel
theorem dX8_keep_1 : decode cX8_keep 1 = .ok (.ifCond .lt 9, 3) := by decide +kernel
theorem dX8_keep_4 : decode cX8_keep 4 = .ok (.iload_n 1, 1) := by decide +kernel
theorem dX8_keep_5 : decode cX8_keep 5 = .ok (.bipush 8, 2) := by decide +kernel
theorem dX8_keep_7 : decode cX8_keep 7 = .ok (.if_icmp .lt 5, 3) := by decide +kernel
theorem dX8_keep_10 : decode cX8_keep 10 = .ok (.iconst (-1), 1) := by decide +kernel
theorem dX8_keep_11 : decode cX8_keep 11 = .ok (.ireturn, 1) := by decide +kernel
theorem dX8_keep_12 : decode cX8_keep 12 = .ok (.aload_n 0, 1) := by decide +kernel
theorem dX8_keep_13 : decode cX8_keep 13 = .ok (.getfield 36, 3) := by decide +kernel
theorem dX8_keep_16 : decode cX8_keep 16 = .ok (.iload_n 1, 1) := by decide +kernel
theorem dX8_keep_17 : decode cX8_keep 17 = .ok (.aaload, 1) := by decide +kernel
theorem dX8_keep_18 : decode cX8_keep 18 = .ok (.astore_n 2, 1) := by decide +kernel
theorem dX8_keep_19 : decode cX8_keep 19 = .ok (.aload_n 2, 1) := by decide +kernel
theorem dX8_keep_20 : decode cX8_keep 20 = .ok (.aload_n 0, 1) := by decide +kernel
theorem dX8_keep_21 : decode cX8_keep 21 = .ok (.getfield 30, 3) := by decide +kernel
theorem dX8_keep_24 : decode cX8_keep 24 = .ok (.getfield 148, 3) := by decide +kernel
theorem dX8_keep_27 : decode cX8_keep 27 = .ok (.putfield 164, 3) := by decide +kernel
theorem dX8_keep_30 : decode cX8_keep 30 = .ok (.aload_n 0, 1) := by decide +kernel
theorem dX8_keep_31 : decode cX8_keep 31 = .ok (.getfield 30, 3) := by decide +kernel
theorem dX8_keep_34 : decode cX8_keep 34 = .ok (.aload_n 2, 1) := by decide +kernel
theorem dX8_keep_35 : decode cX8_keep 35 = .ok (.getfield 164, 3) := by decide +kernel
theorem dX8_keep_38 : decode cX8_keep 38 = .ok (.invokevirtual 149, 3) := by decide +kernel
theorem dX8_keep_41 : decode cX8_keep 41 = .ok (.aload_n 2, 1) := by decide +kernel
theorem dX8_keep_42 : decode cX8_keep 42 = .ok (.getfield 165, 3) := by decide +kernel
theorem dX8_keep_45 : decode cX8_keep 45 = .ok (.invokestatic 168, 3) := by decide +kernel
theorem dX8_keep_48 : decode cX8_keep 48 = .ok (.aload_n 0, 1) := by decide +kernel
theorem dX8_keep_49 : decode cX8_keep 49 = .ok (.getfield 30, 3) := by decide +kernel
theorem dX8_keep_52 : decode cX8_keep 52 = .ok (.iconst 0, 1) := by decide +kernel
theorem dX8_keep_53 : decode cX8_keep 53 = .ok (.aload_n 2, 1) := by decide +kernel
theorem dX8_keep_54 : decode cX8_keep 54 = .ok (.getfield 164, 3) := by decide +kernel
theorem dX8_keep_57 : decode cX8_keep 57 = .ok (.aload_n 2, 1) := by decide +kernel
theorem dX8_keep_58 : decode cX8_keep 58 = .ok (.getfield 172, 3) := by decide +kernel
theorem dX8_keep_61 : decode cX8_keep 61 = .ok (.invokevirtual 157, 3) := by decide +kernel
theorem dX8_keep_64 : decode cX8_keep 64 = .ok (.aload_n 2, 1) := by decide +kernel
theorem dX8_keep_65 : decode cX8_keep 65 = .ok (.getfield 164, 3) := by decide +kernel
theorem dX8_keep_68 : decode cX8_keep 68 = .ok (.ireturn, 1) := by decide +kernel
theorem dX8_verify_0 : decode cX8_verify 0 = .ok (.iload_n 1, 1) := by decide +kernel
theorem dX8_verify_1 : decode cX8_verify 1 = .ok (.ifCond .lt 22, 3) := by decide +kernel
theorem dX8_verify_4 : decode cX8_verify 4 = .ok (.iload_n 1, 1) := by decide +kernel
theorem dX8_verify_5 : decode cX8_verify 5 = .ok (.bipush 8, 2) := by decide +kernel
theorem dX8_verify_7 : decode cX8_verify 7 = .ok (.if_icmp .ge 16, 3) := by decide +kernel
theorem dX8_verify_10 : decode cX8_verify 10 = .ok (.aload_n 0, 1) := by decide +kernel
theorem dX8_verify_11 : decode cX8_verify 11 = .ok (.getfield 36, 3) := by decide +kernel
theorem dX8_verify_14 : decode cX8_verify 14 = .ok (.iload_n 1, 1) := by decide +kernel
theorem dX8_verify_15 : decode cX8_verify 15 = .ok (.aaload, 1) := by decide +kernel
theorem dX8_verify_16 : decode cX8_verify 16 = .ok (.getfield 164, 3) := by decide +kernel
theorem dX8_verify_19 : decode cX8_verify 19 = .ok (.iconst (-1), 1) := by decide +kernel
theorem dX8_verify_20 : decode cX8_verify 20 = .ok (.if_icmp .ne 5, 3) := by decide +kernel
theorem dX8_verify_23 : decode cX8_verify 23 = .ok (.iconst (-1), 1) := by decide +kernel
theorem dX8_verify_24 : decode cX8_verify 24 = .ok (.ireturn, 1) := by decide +kernel
theorem dX8_verify_25 : decode cX8_verify 25 = .ok (.aload_n 0, 1) := by decide +kernel
theorem dX8_verify_26 : decode cX8_verify 26 = .ok (.getfield 36, 3) := by decide +kernel
theorem dX8_verify_29 : decode cX8_verify 29 = .ok (.iload_n 1, 1) := by decide +kernel
theorem dX8_verify_30 : decode cX8_verify 30 = .ok (.aaload, 1) := by decide +kernel
theorem dX8_verify_31 : decode cX8_verify 31 = .ok (.astore_n 2, 1) := by decide +kernel
theorem dX8_verify_32 : decode cX8_verify 32 = .ok (.aload_n 0, 1) := by decide +kernel
theorem dX8_verify_33 : decode cX8_verify 33 = .ok (.getfield 30, 3) := by decide +kernel
theorem dX8_verify_36 : decode cX8_verify 36 = .ok (.aload_n 2, 1) := by decide +kernel
theorem dX8_verify_37 : decode cX8_verify 37 = .ok (.getfield 164, 3) := by decide +kernel
theorem dX8_verify_40 : decode cX8_verify 40 = .ok (.invokevirtual 149, 3) := by decide +kernel
theorem dX8_verify_43 : decode cX8_verify 43 = .ok (.aload_n 2, 1) := by decide +kernel
theorem dX8_verify_44 : decode cX8_verify 44 = .ok (.getfield 165, 3) := by decide +kernel
theorem dX8_verify_47 : decode cX8_verify 47 = .ok (.invokestatic 175, 3) := by decide +kernel
theorem dX8_verify_50 : decode cX8_verify 50 = .ok (.ifCond .ne 5, 3) := by decide +kernel
theorem dX8_verify_53 : decode cX8_verify 53 = .ok (.iconst 1, 1) := by decide +kernel
theorem dX8_verify_54 : decode cX8_verify 54 = .ok (.ireturn, 1) := by decide +kernel
theorem dX8_verify_55 : decode cX8_verify 55 = .ok (.aload_n 0, 1) := by decide +kernel
theorem dX8_verify_56 : decode cX8_verify 56 = .ok (.getfield 30, 3) := by decide +kernel
theorem dX8_verify_59 : decode cX8_verify 59 = .ok (.iconst 0, 1) := by decide +kernel
theorem dX8_verify_60 : decode cX8_verify 60 = .ok (.aload_n 2, 1) := by decide +kernel
theorem dX8_verify_61 : decode cX8_verify 61 = .ok (.getfield 164, 3) := by decide +kernel
theorem dX8_verify_64 : decode cX8_verify 64 = .ok (.aload_n 0, 1) := by decide +kernel
theorem dX8_verify_65 : decode cX8_verify 65 = .ok (.getfield 55, 3) := by decide +kernel
theorem dX8_verify_68 : decode cX8_verify 68 = .ok (.invokevirtual 157, 3) := by decide +kernel
theorem dX8_verify_71 : decode cX8_verify 71 = .ok (.aload_n 0, 1) := by decide +kernel
theorem dX8_verify_72 : decode cX8_verify 72 = .ok (.getfield 55, 3) := by decide +kernel
theorem dX8_verify_75 : decode cX8_verify 75 = .ok (.aload_n 2, 1) := by decide +kernel
theorem dX8_verify_76 : decode cX8_verify 76 = .ok (.getfield 172, 3) := by decide +kernel
theorem dX8_verify_79 : decode cX8_verify 79 = .ok (.invokestatic 175, 3) := by decide +kernel
theorem dX8_verify_82 : decode cX8_verify 82 = .ok (.ifCond .eq 7, 3) := by decide +kernel
theorem dX8_verify_85 : decode cX8_verify 85 = .ok (.iconst 0, 1) := by decide +kernel
theorem dX8_verify_86 : decode cX8_verify 86 = .ok (.goto 4, 3) := by decide +kernel
theorem dX8_verify_89 : decode cX8_verify 89 = .ok (.iconst 2, 1) := by decide +kernel
theorem dX8_verify_90 : decode cX8_verify 90 = .ok (.ireturn, 1) := by decide +kernel
theorem dX8_path_0 : decode cX8_path 0 = .ok (.iload_n 1, 1) := by decide +kernel
theorem dX8_path_1 : decode cX8_path 1 = .ok (.ifCond .lt 19, 3) := by decide +kernel
theorem dX8_path_4 : decode cX8_path 4 = .ok (.iload_n 1, 1) := by decide +kernel
theorem dX8_path_5 : decode cX8_path 5 = .ok (.iload_n 2, 1) := by decide +kernel
theorem dX8_path_6 : decode cX8_path 6 = .ok (.if_icmp .ge 14, 3) := by decide +kernel
theorem dX8_path_9 : decode cX8_path 9 = .ok (.iload_n 2, 1) := by decide +kernel
theorem dX8_path_10 : decode cX8_path 10 = .ok (.aload_n 0, 1) := by decide +kernel
theorem dX8_path_11 : decode cX8_path 11 = .ok (.getfield 30, 3) := by decide +kernel
theorem dX8_path_14 : decode cX8_path 14 = .ok (.getfield 148, 3) := by decide +kernel
theorem dX8_path_17 : decode cX8_path 17 = .ok (.if_icmp .le 5, 3) := by decide +kernel
theorem dX8_path_20 : decode cX8_path 20 = .ok (.iconst (-1), 1) := by decide +kernel
theorem dX8_path_21 : decode cX8_path 21 = .ok (.ireturn, 1) := by decide +kernel
theorem dX8_path_22 : decode cX8_path 22 = .ok (.aload_n 0, 1) := by decide +kernel
theorem dX8_path_23 : decode cX8_path 23 = .ok (.getfield 44, 3) := by decide +kernel
theorem dX8_path_26 : decode cX8_path 26 = .ok (.aload_n 0, 1) := by decide +kernel
theorem dX8_path_27 : decode cX8_path 27 = .ok (.getfield 30, 3) := by decide +kernel
theorem dX8_path_30 : decode cX8_path 30 = .ok (.iconst 0, 1) := by decide +kernel
theorem dX8_path_31 : decode cX8_path 31 = .ok (.iload_n 1, 1) := by decide +kernel
theorem dX8_path_32 : decode cX8_path 32 = .ok (.iload_n 2, 1) := by decide +kernel
theorem dX8_path_33 : decode cX8_path 33 = .ok (.invokevirtual 179, 3) := by decide +kernel
theorem dX8_path_36 : decode cX8_path 36 = .ok (.aload_n 0, 1) := by decide +kernel
theorem dX8_path_37 : decode cX8_path 37 = .ok (.getfield 44, 3) := by decide +kernel
theorem dX8_path_40 : decode cX8_path 40 = .ok (.getfield 183, 3) := by decide +kernel
theorem dX8_path_43 : decode cX8_path 43 = .ok (.ireturn, 1) := by decide +kernel
theorem dX8_proof_0 : decode cX8_proof 0 = .ok (.iload_n 1, 1) := by decide +kernel
theorem dX8_proof_1 : decode cX8_proof 1 = .ok (.ifCond .le 19, 3) := by decide +kernel
theorem dX8_proof_4 : decode cX8_proof 4 = .ok (.iload_n 1, 1) := by decide +kernel
theorem dX8_proof_5 : decode cX8_proof 5 = .ok (.iload_n 2, 1) := by decide +kernel
theorem dX8_proof_6 : decode cX8_proof 6 = .ok (.if_icmp .ge 14, 3) := by decide +kernel
theorem dX8_proof_9 : decode cX8_proof 9 = .ok (.iload_n 2, 1) := by decide +kernel
theorem dX8_proof_10 : decode cX8_proof 10 = .ok (.aload_n 0, 1) := by decide +kernel
theorem dX8_proof_11 : decode cX8_proof 11 = .ok (.getfield 30, 3) := by decide +kernel
theorem dX8_proof_14 : decode cX8_proof 14 = .ok (.getfield 148, 3) := by decide +kernel
theorem dX8_proof_17 : decode cX8_proof 17 = .ok (.if_icmp .le 5, 3) := by decide +kernel
theorem dX8_proof_20 : decode cX8_proof 20 = .ok (.iconst (-1), 1) := by decide +kernel
theorem dX8_proof_21 : decode cX8_proof 21 = .ok (.ireturn, 1) := by decide +kernel
theorem dX8_proof_22 : decode cX8_proof 22 = .ok (.aload_n 0, 1) := by decide +kernel
theorem dX8_proof_23 : decode cX8_proof 23 = .ok (.getfield 44, 3) := by decide +kernel
theorem dX8_proof_26 : decode cX8_proof 26 = .ok (.aload_n 0, 1) := by decide +kernel
theorem dX8_proof_27 : decode cX8_proof 27 = .ok (.getfield 30, 3) := by decide +kernel
theorem dX8_proof_30 : decode cX8_proof 30 = .ok (.iconst 1, 1) := by decide +kernel
theorem dX8_proof_31 : decode cX8_proof 31 = .ok (.iload_n 1, 1) := by decide +kernel
theorem dX8_proof_32 : decode cX8_proof 32 = .ok (.iload_n 2, 1) := by decide +kernel
theorem dX8_proof_33 : decode cX8_proof 33 = .ok (.invokevirtual 179, 3) := by decide +kernel
theorem dX8_proof_36 : decode cX8_proof 36 = .ok (.aload_n 0, 1) := by decide +kernel
theorem dX8_proof_37 : decode cX8_proof 37 = .ok (.getfield 44, 3) := by decide +kernel
theorem dX8_proof_40 : decode cX8_proof 40 = .ok (.getfield 183, 3) := by decide +kernel
theorem dX8_proof_43 : decode cX8_proof 43 = .ok (.ireturn, 1) := by decide +kernel
theorem dX8_step_0 : decode cX8_step 0 = .ok (.iload_n 1, 1) := by decide +kernel
theorem dX8_step_1 : decode cX8_step 1 = .ok (.ifCond .lt 24, 3) := by decide +kernel
theorem dX8_step_4 : decode cX8_step 4 = .ok (.iload_n 1, 1) := by decide +kernel
theorem dX8_step_5 : decode cX8_step 5 = .ok (.aload_n 0, 1) := by decide +kernel
theorem dX8_step_6 : decode cX8_step 6 = .ok (.getfield 44, 3) := by decide +kernel
theorem dX8_step_9 : decode cX8_step 9 = .ok (.getfield 183, 3) := by decide +kernel
theorem dX8_step_12 : decode cX8_step 12 = .ok (.if_icmp .ge 13, 3) := by decide +kernel
theorem dX8_step_15 : decode cX8_step 15 = .ok (.iload_n 2, 1) := by decide +kernel
theorem dX8_step_16 : decode cX8_step 16 = .ok (.ifCond .lt 9, 3) := by decide +kernel
theorem dX8_step_19 : decode cX8_step 19 = .ok (.iload_n 2, 1) := by decide +kernel
theorem dX8_step_20 : decode cX8_step 20 = .ok (.bipush 32, 2) := by decide +kernel
theorem dX8_step_22 : decode cX8_step 22 = .ok (.if_icmp .lt 5, 3) := by decide +kernel
theorem dX8_step_25 : decode cX8_step 25 = .ok (.iconst (-1), 1) := by decide +kernel
theorem dX8_step_26 : decode cX8_step 26 = .ok (.ireturn, 1) := by decide +kernel
theorem dX8_step_27 : decode cX8_step 27 = .ok (.aload_n 0, 1) := by decide +kernel
theorem dX8_step_28 : decode cX8_step 28 = .ok (.getfield 44, 3) := by decide +kernel
theorem dX8_step_31 : decode cX8_step 31 = .ok (.getfield 186, 3) := by decide +kernel
theorem dX8_step_34 : decode cX8_step 34 = .ok (.iload_n 1, 1) := by decide +kernel
theorem dX8_step_35 : decode cX8_step 35 = .ok (.aaload, 1) := by decide +kernel
theorem dX8_step_36 : decode cX8_step 36 = .ok (.iload_n 2, 1) := by decide +kernel
theorem dX8_step_37 : decode cX8_step 37 = .ok (.invokestatic 153, 3) := by decide +kernel
theorem dX8_step_40 : decode cX8_step 40 = .ok (.ireturn, 1) := by decide +kernel
theorem dX8_leads_0 : decode cX8_leads 0 = .ok (.aload_n 0, 1) := by decide +kernel
theorem dX8_leads_1 : decode cX8_leads 1 = .ok (.getfield 44, 3) := by decide +kernel
theorem dX8_leads_4 : decode cX8_leads 4 = .ok (.getfield 190, 3) := by decide +kernel
theorem dX8_leads_7 : decode cX8_leads 7 = .ok (.ifCond .eq 18, 3) := by decide +kernel
theorem dX8_leads_10 : decode cX8_leads 10 = .ok (.aload_n 0, 1) := by decide +kernel
theorem dX8_leads_11 : decode cX8_leads 11 = .ok (.iload_n 2, 1) := by decide +kernel
theorem dX8_leads_12 : decode cX8_leads 12 = .ok (.aload_n 0, 1) := by decide +kernel
theorem dX8_leads_13 : decode cX8_leads 13 = .ok (.getfield 44, 3) := by decide +kernel
theorem dX8_leads_16 : decode cX8_leads 16 = .ok (.getfield 194, 3) := by decide +kernel
theorem dX8_leads_19 : decode cX8_leads 19 = .ok (.invokevirtual 197, 3) := by decide +kernel
theorem dX8_leads_22 : decode cX8_leads 22 = .ok (.ifCond .ne 5, 3) := by decide +kernel
theorem dX8_leads_25 : decode cX8_leads 25 = .ok (.iconst (-1), 1) := by decide +kernel
theorem dX8_leads_26 : decode cX8_leads 26 = .ok (.ireturn, 1) := by decide +kernel
theorem dX8_leads_27 : decode cX8_leads 27 = .ok (.aload_n 0, 1) := by decide +kernel
theorem dX8_leads_28 : decode cX8_leads 28 = .ok (.getfield 44, 3) := by decide +kernel
theorem dX8_leads_31 : decode cX8_leads 31 = .ok (.getfield 201, 3) := by decide +kernel
theorem dX8_leads_34 : decode cX8_leads 34 = .ok (.ifCond .eq 45, 3) := by decide +kernel
theorem dX8_leads_37 : decode cX8_leads 37 = .ok (.aload_n 0, 1) := by decide +kernel
theorem dX8_leads_38 : decode cX8_leads 38 = .ok (.iload_n 1, 1) := by decide +kernel
theorem dX8_leads_39 : decode cX8_leads 39 = .ok (.aload_n 0, 1) := by decide +kernel
theorem dX8_leads_40 : decode cX8_leads 40 = .ok (.getfield 44, 3) := by decide +kernel
theorem dX8_leads_43 : decode cX8_leads 43 = .ok (.getfield 204, 3) := by decide +kernel
theorem dX8_leads_46 : decode cX8_leads 46 = .ok (.invokevirtual 197, 3) := by decide +kernel
theorem dX8_leads_49 : decode cX8_leads 49 = .ok (.ifCond .eq 28, 3) := by decide +kernel
theorem dX8_leads_52 : decode cX8_leads 52 = .ok (.aload_n 0, 1) := by decide +kernel
theorem dX8_leads_53 : decode cX8_leads 53 = .ok (.getfield 44, 3) := by decide +kernel
theorem dX8_leads_56 : decode cX8_leads 56 = .ok (.aload_n 0, 1) := by decide +kernel
theorem dX8_leads_57 : decode cX8_leads 57 = .ok (.getfield 36, 3) := by decide +kernel
theorem dX8_leads_60 : decode cX8_leads 60 = .ok (.iload_n 1, 1) := by decide +kernel
theorem dX8_leads_61 : decode cX8_leads 61 = .ok (.aaload, 1) := by decide +kernel
theorem dX8_leads_62 : decode cX8_leads 62 = .ok (.aload_n 0, 1) := by decide +kernel
theorem dX8_leads_63 : decode cX8_leads 63 = .ok (.getfield 36, 3) := by decide +kernel
theorem dX8_leads_66 : decode cX8_leads 66 = .ok (.iload_n 2, 1) := by decide +kernel
theorem dX8_leads_67 : decode cX8_leads 67 = .ok (.aaload, 1) := by decide +kernel
theorem dX8_leads_68 : decode cX8_leads 68 = .ok (.invokevirtual 207, 3) := by decide +kernel
theorem dX8_leads_71 : decode cX8_leads 71 = .ok (.invokestatic 211, 3) := by decide +kernel
theorem dX8_leads_74 : decode cX8_leads 74 = .ok (.goto 4, 3) := by decide +kernel
theorem dX8_leads_77 : decode cX8_leads 77 = .ok (.iconst (-1), 1) := by decide +kernel
theorem dX8_leads_78 : decode cX8_leads 78 = .ok (.ireturn, 1) := by decide +kernel
theorem dX8_leads_79 : decode cX8_leads 79 = .ok (.aload_n 0, 1) := by decide +kernel
theorem dX8_leads_80 : decode cX8_leads 80 = .ok (.getfield 44, 3) := by decide +kernel
theorem dX8_leads_83 : decode cX8_leads 83 = .ok (.aload_n 0, 1) := by decide +kernel
theorem dX8_leads_84 : decode cX8_leads 84 = .ok (.getfield 30, 3) := by decide +kernel
theorem dX8_leads_87 : decode cX8_leads 87 = .ok (.aload_n 0, 1) := by decide +kernel
theorem dX8_leads_88 : decode cX8_leads 88 = .ok (.getfield 44, 3) := by decide +kernel
theorem dX8_leads_91 : decode cX8_leads 91 = .ok (.getfield 204, 3) := by decide +kernel
theorem dX8_leads_94 : decode cX8_leads 94 = .ok (.invokevirtual 161, 3) := by decide +kernel
theorem dX8_leads_97 : decode cX8_leads 97 = .ok (.aload_n 0, 1) := by decide +kernel
theorem dX8_leads_98 : decode cX8_leads 98 = .ok (.getfield 36, 3) := by decide +kernel
theorem dX8_leads_101 : decode cX8_leads 101 = .ok (.iload_n 2, 1) := by decide +kernel
theorem dX8_leads_102 : decode cX8_leads 102 = .ok (.aaload, 1) := by decide +kernel
theorem dX8_leads_103 : decode cX8_leads 103 = .ok (.invokevirtual 215, 3) := by decide +kernel
theorem dX8_leads_106 : decode cX8_leads 106 = .ok (.invokestatic 211, 3) := by decide +kernel
theorem dX8_leads_109 : decode cX8_leads 109 = .ok (.ireturn, 1) := by decide +kernel
theorem dX8_audit_0 : decode cX8_audit 0 = .ok (.aload_n 0, 1) := by decide +kernel
theorem dX8_audit_1 : decode cX8_audit 1 = .ok (.getfield 51, 3) := by decide +kernel
theorem dX8_audit_4 : decode cX8_audit 4 = .ok (.aload_n 0, 1) := by decide +kernel
theorem dX8_audit_5 : decode cX8_audit 5 = .ok (.getfield 30, 3) := by decide +kernel
theorem dX8_audit_8 : decode cX8_audit 8 = .ok (.aload_n 0, 1) := by decide +kernel
theorem dX8_audit_9 : decode cX8_audit 9 = .ok (.getfield 23, 3) := by decide +kernel
theorem dX8_audit_12 : decode cX8_audit 12 = .ok (.invokevirtual 219, 3) := by decide +kernel
theorem dX8_audit_15 : decode cX8_audit 15 = .ok (.istore_n 1, 1) := by decide +kernel
theorem dX8_audit_16 : decode cX8_audit 16 = .ok (.iload_n 1, 1) := by decide +kernel
theorem dX8_audit_17 : decode cX8_audit 17 = .ok (.iconst (-1), 1) := by decide +kernel
theorem dX8_audit_18 : decode cX8_audit 18 = .ok (.if_icmp .eq 5, 3) := by decide +kernel
theorem dX8_audit_21 : decode cX8_audit 21 = .ok (.iload_n 1, 1) := by decide +kernel
theorem dX8_audit_22 : decode cX8_audit 22 = .ok (.ireturn, 1) := by decide +kernel
theorem dX8_audit_23 : decode cX8_audit 23 = .ok (.iconst 0, 1) := by decide +kernel
theorem dX8_audit_24 : decode cX8_audit 24 = .ok (.istore_n 2, 1) := by decide +kernel
theorem dX8_audit_25 : decode cX8_audit 25 = .ok (.iload_n 2, 1) := by decide +kernel
theorem dX8_audit_26 : decode cX8_audit 26 = .ok (.aload_n 0, 1) := by decide +kernel
theorem dX8_audit_27 : decode cX8_audit 27 = .ok (.getfield 30, 3) := by decide +kernel
theorem dX8_audit_30 : decode cX8_audit 30 = .ok (.invokevirtual 137, 3) := by decide +kernel
theorem dX8_audit_33 : decode cX8_audit 33 = .ok (.if_icmp .ge 39, 3) := by decide +kernel
theorem dX8_audit_36 : decode cX8_audit 36 = .ok (.aload_n 0, 1) := by decide +kernel
theorem dX8_audit_37 : decode cX8_audit 37 = .ok (.getfield 30, 3) := by decide +kernel
theorem dX8_audit_40 : decode cX8_audit 40 = .ok (.getfield 140, 3) := by decide +kernel
theorem dX8_audit_43 : decode cX8_audit 43 = .ok (.iload_n 2, 1) := by decide +kernel
theorem dX8_audit_44 : decode cX8_audit 44 = .ok (.baload, 1) := by decide +kernel
theorem dX8_audit_45 : decode cX8_audit 45 = .ok (.aload_n 0, 1) := by decide +kernel
theorem dX8_audit_46 : decode cX8_audit 46 = .ok (.getfield 12, 3) := by decide +kernel
theorem dX8_audit_49 : decode cX8_audit 49 = .ok (.getfield 223, 3) := by decide +kernel
theorem dX8_audit_52 : decode cX8_audit 52 = .ok (.iload_n 2, 1) := by decide +kernel
theorem dX8_audit_53 : decode cX8_audit 53 = .ok (.baload, 1) := by decide +kernel
theorem dX8_audit_54 : decode cX8_audit 54 = .ok (.if_icmp .eq 12, 3) := by decide +kernel
theorem dX8_audit_57 : decode cX8_audit 57 = .ok (.aload_n 0, 1) := by decide +kernel
theorem dX8_audit_58 : decode cX8_audit 58 = .ok (.getfield 30, 3) := by decide +kernel
theorem dX8_audit_61 : decode cX8_audit 61 = .ok (.iload_n 2, 1) := by decide +kernel
theorem dX8_audit_62 : decode cX8_audit 62 = .ok (.invokevirtual 226, 3) := by decide +kernel
theorem dX8_audit_65 : decode cX8_audit 65 = .ok (.ireturn, 1) := by decide +kernel
theorem dX8_audit_66 : decode cX8_audit 66 = .ok (.iinc 2 1, 3) := by decide +kernel
theorem dX8_audit_69 : decode cX8_audit 69 = .ok (.goto (-44), 3) := by decide +kernel
theorem dX8_audit_72 : decode cX8_audit 72 = .ok (.iconst (-1), 1) := by decide +kernel
theorem dX8_audit_73 : decode cX8_audit 73 = .ok (.ireturn, 1) := by decide +kernel
theorem dX8_count_0 : decode cX8_count 0 = .ok (.iload_n 1, 1) := by decide +kernel
theorem dX8_count_1 : decode cX8_count 1 = .ok (.tableswitch 108 0 7 #[47, 55, 63, 71, 79, 87, 95, 103], 47) := by decide +kernel
theorem dX8_count_48 : decode cX8_count 48 = .ok (.aload_n 0, 1) := by decide +kernel
theorem dX8_count_49 : decode cX8_count 49 = .ok (.getfield 12, 3) := by decide +kernel
theorem dX8_count_52 : decode cX8_count 52 = .ok (.getfield 103, 3) := by decide +kernel
theorem dX8_count_55 : decode cX8_count 55 = .ok (.ireturn, 1) := by decide +kernel
theorem dX8_count_56 : decode cX8_count 56 = .ok (.aload_n 0, 1) := by decide +kernel
theorem dX8_count_57 : decode cX8_count 57 = .ok (.getfield 12, 3) := by decide +kernel
theorem dX8_count_60 : decode cX8_count 60 = .ok (.getfield 100, 3) := by decide +kernel
theorem dX8_count_63 : decode cX8_count 63 = .ok (.ireturn, 1) := by decide +kernel
theorem dX8_count_64 : decode cX8_count 64 = .ok (.aload_n 0, 1) := by decide +kernel
theorem dX8_count_65 : decode cX8_count 65 = .ok (.getfield 30, 3) := by decide +kernel
theorem dX8_count_68 : decode cX8_count 68 = .ok (.invokevirtual 137, 3) := by decide +kernel
theorem dX8_count_71 : decode cX8_count 71 = .ok (.ireturn, 1) := by decide +kernel
theorem dX8_count_72 : decode cX8_count 72 = .ok (.aload_n 0, 1) := by decide +kernel
theorem dX8_count_73 : decode cX8_count 73 = .ok (.getfield 12, 3) := by decide +kernel
theorem dX8_count_76 : decode cX8_count 76 = .ok (.getfield 229, 3) := by decide +kernel
theorem dX8_count_79 : decode cX8_count 79 = .ok (.ireturn, 1) := by decide +kernel
theorem dX8_count_80 : decode cX8_count 80 = .ok (.aload_n 0, 1) := by decide +kernel
theorem dX8_count_81 : decode cX8_count 81 = .ok (.getfield 12, 3) := by decide +kernel
theorem dX8_count_84 : decode cX8_count 84 = .ok (.getfield 93, 3) := by decide +kernel
theorem dX8_count_87 : decode cX8_count 87 = .ok (.ireturn, 1) := by decide +kernel
theorem dX8_count_88 : decode cX8_count 88 = .ok (.aload_n 0, 1) := by decide +kernel
theorem dX8_count_89 : decode cX8_count 89 = .ok (.getfield 12, 3) := by decide +kernel
theorem dX8_count_92 : decode cX8_count 92 = .ok (.getfield 232, 3) := by decide +kernel
theorem dX8_count_95 : decode cX8_count 95 = .ok (.ireturn, 1) := by decide +kernel
theorem dX8_count_96 : decode cX8_count 96 = .ok (.aload_n 0, 1) := by decide +kernel
theorem dX8_count_97 : decode cX8_count 97 = .ok (.getfield 19, 3) := by decide +kernel
theorem dX8_count_100 : decode cX8_count 100 = .ok (.getfield 70, 3) := by decide +kernel
theorem dX8_count_103 : decode cX8_count 103 = .ok (.ireturn, 1) := by decide +kernel
theorem dX8_count_104 : decode cX8_count 104 = .ok (.aload_n 0, 1) := by decide +kernel
theorem dX8_count_105 : decode cX8_count 105 = .ok (.invokevirtual 235, 3) := by decide +kernel
theorem dX8_count_108 : decode cX8_count 108 = .ok (.ireturn, 1) := by decide +kernel
theorem dX8_count_109 : decode cX8_count 109 = .ok (.iconst (-1), 1) := by decide +kernel
theorem dX8_count_110 : decode cX8_count 110 = .ok (.ireturn, 1) := by decide +kernel
theorem dX8_written_0 : decode cX8_written 0 = .ok (.aload_n 0, 1) := by decide +kernel
theorem dX8_written_1 : decode cX8_written 1 = .ok (.getfield 30, 3) := by decide +kernel
theorem dX8_written_4 : decode cX8_written 4 = .ok (.aload_n 0, 1) := by decide +kernel
theorem dX8_written_5 : decode cX8_written 5 = .ok (.getfield 12, 3) := by decide +kernel
theorem dX8_written_8 : decode cX8_written 8 = .ok (.invokevirtual 238, 3) := by decide +kernel
theorem dX8_written_11 : decode cX8_written 11 = .ok (.iload_n 1, 1) := by decide +kernel
theorem dX8_written_12 : decode cX8_written 12 = .ok (.ireturn, 1) := by decide +kernel
theorem dX8_legOf_0 : decode cX8_legOf 0 = .ok (.aload_n 0, 1) := by decide +kernel
theorem dX8_legOf_1 : decode cX8_legOf 1 = .ok (.getfield 12, 3) := by decide +kernel
theorem dX8_legOf_4 : decode cX8_legOf 4 = .ok (.getfield 127, 3) := by decide +kernel
theorem dX8_legOf_7 : decode cX8_legOf 7 = .ok (.iload_n 1, 1) := by decide +kernel
theorem dX8_legOf_8 : decode cX8_legOf 8 = .ok (.iaload, 1) := by decide +kernel
theorem dX8_legOf_9 : decode cX8_legOf 9 = .ok (.istore_n 3, 1) := by decide +kernel
theorem dX8_legOf_10 : decode cX8_legOf 10 = .ok (.iload_n 2, 1) := by decide +kernel
theorem dX8_legOf_11 : decode cX8_legOf 11 = .ok (.bipush 10, 2) := by decide +kernel
theorem dX8_legOf_13 : decode cX8_legOf 13 = .ok (.if_icmp .lt 30, 3) := by decide +kernel
theorem dX8_legOf_16 : decode cX8_legOf 16 = .ok (.iload_n 2, 1) := by decide +kernel
theorem dX8_legOf_17 : decode cX8_legOf 17 = .ok (.bipush 10, 2) := by decide +kernel
theorem dX8_legOf_19 : decode cX8_legOf 19 = .ok (.iload_n 3, 1) := by decide +kernel
theorem dX8_legOf_20 : decode cX8_legOf 20 = .ok (.iadd, 1) := by decide +kernel
theorem dX8_legOf_21 : decode cX8_legOf 21 = .ok (.if_icmp .ge 22, 3) := by decide +kernel
theorem dX8_legOf_24 : decode cX8_legOf 24 = .ok (.aload_n 0, 1) := by decide +kernel
theorem dX8_legOf_25 : decode cX8_legOf 25 = .ok (.getfield 12, 3) := by decide +kernel
theorem dX8_legOf_28 : decode cX8_legOf 28 = .ok (.getfield 242, 3) := by decide +kernel
theorem dX8_legOf_31 : decode cX8_legOf 31 = .ok (.iload_n 1, 1) := by decide +kernel
theorem dX8_legOf_32 : decode cX8_legOf 32 = .ok (.bipush 8, 2) := by decide +kernel
theorem dX8_legOf_34 : decode cX8_legOf 34 = .ok (.imul, 1) := by decide +kernel
theorem dX8_legOf_35 : decode cX8_legOf 35 = .ok (.iload_n 2, 1) := by decide +kernel
theorem dX8_legOf_36 : decode cX8_legOf 36 = .ok (.iadd, 1) := by decide +kernel
theorem dX8_legOf_37 : decode cX8_legOf 37 = .ok (.bipush 10, 2) := by decide +kernel
theorem dX8_legOf_39 : decode cX8_legOf 39 = .ok (.isub, 1) := by decide +kernel
theorem dX8_legOf_40 : decode cX8_legOf 40 = .ok (.iaload, 1) := by decide +kernel
theorem dX8_legOf_41 : decode cX8_legOf 41 = .ok (.i2l, 1) := by decide +kernel
theorem dX8_legOf_42 : decode cX8_legOf 42 = .ok (.lreturn, 1) := by decide +kernel
theorem dX8_legOf_43 : decode cX8_legOf 43 = .ok (.iload_n 2, 1) := by decide +kernel
theorem dX8_legOf_44 : decode cX8_legOf 44 = .ok (.bipush 30, 2) := by decide +kernel
theorem dX8_legOf_46 : decode cX8_legOf 46 = .ok (.if_icmp .lt 29, 3) := by decide +kernel
theorem dX8_legOf_49 : decode cX8_legOf 49 = .ok (.iload_n 2, 1) := by decide +kernel
theorem dX8_legOf_50 : decode cX8_legOf 50 = .ok (.bipush 30, 2) := by decide +kernel
theorem dX8_legOf_52 : decode cX8_legOf 52 = .ok (.iload_n 3, 1) := by decide +kernel
theorem dX8_legOf_53 : decode cX8_legOf 53 = .ok (.iadd, 1) := by decide +kernel
theorem dX8_legOf_54 : decode cX8_legOf 54 = .ok (.if_icmp .ge 21, 3) := by decide +kernel
theorem dX8_legOf_57 : decode cX8_legOf 57 = .ok (.aload_n 0, 1) := by decide +kernel
theorem dX8_legOf_58 : decode cX8_legOf 58 = .ok (.getfield 12, 3) := by decide +kernel
theorem dX8_legOf_61 : decode cX8_legOf 61 = .ok (.getfield 245, 3) := by decide +kernel
theorem dX8_legOf_64 : decode cX8_legOf 64 = .ok (.iload_n 1, 1) := by decide +kernel
theorem dX8_legOf_65 : decode cX8_legOf 65 = .ok (.bipush 8, 2) := by decide +kernel
theorem dX8_legOf_67 : decode cX8_legOf 67 = .ok (.imul, 1) := by decide +kernel
theorem dX8_legOf_68 : decode cX8_legOf 68 = .ok (.iload_n 2, 1) := by decide +kernel
theorem dX8_legOf_69 : decode cX8_legOf 69 = .ok (.iadd, 1) := by decide +kernel
theorem dX8_legOf_70 : decode cX8_legOf 70 = .ok (.bipush 30, 2) := by decide +kernel
theorem dX8_legOf_72 : decode cX8_legOf 72 = .ok (.isub, 1) := by decide +kernel
theorem dX8_legOf_73 : decode cX8_legOf 73 = .ok (.laload, 1) := by decide +kernel
theorem dX8_legOf_74 : decode cX8_legOf 74 = .ok (.lreturn, 1) := by decide +kernel
theorem dX8_legOf_75 : decode cX8_legOf 75 = .ok (.ldc2_w 106, 3) := by decide +kernel
theorem dX8_legOf_78 : decode cX8_legOf 78 = .ok (.lreturn, 1) := by decide +kernel
theorem dX8_alteredBytes_0 : decode cX8_alteredBytes 0 = .ok (.iconst 0, 1) := by decide +kernel
theorem dX8_alteredBytes_1 : decode cX8_alteredBytes 1 = .ok (.istore_n 1, 1) := by decide +kernel
theorem dX8_alteredBytes_2 : decode cX8_alteredBytes 2 = .ok (.iconst 0, 1) := by decide +kernel
theorem dX8_alteredBytes_3 : decode cX8_alteredBytes 3 = .ok (.istore_n 2, 1) := by decide +kernel
theorem dX8_alteredBytes_4 : decode cX8_alteredBytes 4 = .ok (.iload_n 2, 1) := by decide +kernel
theorem dX8_alteredBytes_5 : decode cX8_alteredBytes 5 = .ok (.aload_n 0, 1) := by decide +kernel
theorem dX8_alteredBytes_6 : decode cX8_alteredBytes 6 = .ok (.getfield 30, 3) := by decide +kernel
theorem dX8_alteredBytes_9 : decode cX8_alteredBytes 9 = .ok (.invokevirtual 137, 3) := by decide +kernel
theorem dX8_alteredBytes_12 : decode cX8_alteredBytes 12 = .ok (.if_icmp .ge 33, 3) := by decide +kernel
theorem dX8_alteredBytes_15 : decode cX8_alteredBytes 15 = .ok (.aload_n 0, 1) := by decide +kernel
theorem dX8_alteredBytes_16 : decode cX8_alteredBytes 16 = .ok (.getfield 30, 3) := by decide +kernel
theorem dX8_alteredBytes_19 : decode cX8_alteredBytes 19 = .ok (.getfield 140, 3) := by decide +kernel
theorem dX8_alteredBytes_22 : decode cX8_alteredBytes 22 = .ok (.iload_n 2, 1) := by decide +kernel
theorem dX8_alteredBytes_23 : decode cX8_alteredBytes 23 = .ok (.baload, 1) := by decide +kernel
theorem dX8_alteredBytes_24 : decode cX8_alteredBytes 24 = .ok (.aload_n 0, 1) := by decide +kernel
theorem dX8_alteredBytes_25 : decode cX8_alteredBytes 25 = .ok (.getfield 12, 3) := by decide +kernel
theorem dX8_alteredBytes_28 : decode cX8_alteredBytes 28 = .ok (.getfield 223, 3) := by decide +kernel
theorem dX8_alteredBytes_31 : decode cX8_alteredBytes 31 = .ok (.iload_n 2, 1) := by decide +kernel
theorem dX8_alteredBytes_32 : decode cX8_alteredBytes 32 = .ok (.baload, 1) := by decide +kernel
theorem dX8_alteredBytes_33 : decode cX8_alteredBytes 33 = .ok (.if_icmp .eq 6, 3) := by decide +kernel
theorem dX8_alteredBytes_36 : decode cX8_alteredBytes 36 = .ok (.iinc 1 1, 3) := by decide +kernel
theorem dX8_alteredBytes_39 : decode cX8_alteredBytes 39 = .ok (.iinc 2 1, 3) := by decide +kernel
theorem dX8_alteredBytes_42 : decode cX8_alteredBytes 42 = .ok (.goto (-38), 3) := by decide +kernel
theorem dX8_alteredBytes_45 : decode cX8_alteredBytes 45 = .ok (.iload_n 1, 1) := by decide +kernel
theorem dX8_alteredBytes_46 : decode cX8_alteredBytes 46 = .ok (.ireturn, 1) := by decide +kernel
theorem dX8_isHeadOf_0 : decode cX8_isHeadOf 0 = .ok (.iload_n 1, 1) := by decide +kernel
theorem dX8_isHeadOf_1 : decode cX8_isHeadOf 1 = .ok (.ifCond .lt 26, 3) := by decide +kernel
theorem dX8_isHeadOf_4 : decode cX8_isHeadOf 4 = .ok (.iload_n 1, 1) := by decide +kernel
theorem dX8_isHeadOf_5 : decode cX8_isHeadOf 5 = .ok (.bipush 8, 2) := by decide +kernel
theorem dX8_isHeadOf_7 : decode cX8_isHeadOf 7 = .ok (.if_icmp .ge 20, 3) := by decide +kernel
theorem dX8_isHeadOf_10 : decode cX8_isHeadOf 10 = .ok (.aload_n 0, 1) := by decide +kernel
theorem dX8_isHeadOf_11 : decode cX8_isHeadOf 11 = .ok (.getfield 36, 3) := by decide +kernel
theorem dX8_isHeadOf_14 : decode cX8_isHeadOf 14 = .ok (.iload_n 1, 1) := by decide +kernel
theorem dX8_isHeadOf_15 : decode cX8_isHeadOf 15 = .ok (.aaload, 1) := by decide +kernel
theorem dX8_isHeadOf_16 : decode cX8_isHeadOf 16 = .ok (.getfield 164, 3) := by decide +kernel
theorem dX8_isHeadOf_19 : decode cX8_isHeadOf 19 = .ok (.iload_n 2, 1) := by decide +kernel
theorem dX8_isHeadOf_20 : decode cX8_isHeadOf 20 = .ok (.if_icmp .ne 7, 3) := by decide +kernel
theorem dX8_isHeadOf_23 : decode cX8_isHeadOf 23 = .ok (.iconst 1, 1) := by decide +kernel
theorem dX8_isHeadOf_24 : decode cX8_isHeadOf 24 = .ok (.goto 4, 3) := by decide +kernel
theorem dX8_isHeadOf_27 : decode cX8_isHeadOf 27 = .ok (.iconst 0, 1) := by decide +kernel
theorem dX8_isHeadOf_28 : decode cX8_isHeadOf 28 = .ok (.ireturn, 1) := by decide +kernel
theorem dX8_oneIf_0 : decode cX8_oneIf 0 = .ok (.iload_n 0, 1) := by decide +kernel
theorem dX8_oneIf_1 : decode cX8_oneIf 1 = .ok (.ifCond .eq 7, 3) := by decide +kernel
theorem dX8_oneIf_4 : decode cX8_oneIf 4 = .ok (.iconst 1, 1) := by decide +kernel
theorem dX8_oneIf_5 : decode cX8_oneIf 5 = .ok (.goto 4, 3) := by decide +kernel
theorem dX8_oneIf_8 : decode cX8_oneIf 8 = .ok (.iconst 0, 1) := by decide +kernel
theorem dX8_oneIf_9 : decode cX8_oneIf 9 = .ok (.ireturn, 1) := by decide +kernel
theorem dX8_byteOf_0 : decode cX8_byteOf 0 = .ok (.aload_n 0, 1) := by decide +kernel
theorem dX8_byteOf_1 : decode cX8_byteOf 1 = .ok (.iload_n 1, 1) := by decide +kernel
theorem dX8_byteOf_2 : decode cX8_byteOf 2 = .ok (.iconst 2, 1) := by decide +kernel
theorem dX8_byteOf_3 : decode cX8_byteOf 3 = .ok (.ishr, 1) := by decide +kernel
theorem dX8_byteOf_4 : decode cX8_byteOf 4 = .ok (.iaload, 1) := by decide +kernel
theorem dX8_byteOf_5 : decode cX8_byteOf 5 = .ok (.bipush 24, 2) := by decide +kernel
theorem dX8_byteOf_7 : decode cX8_byteOf 7 = .ok (.bipush 8, 2) := by decide +kernel
theorem dX8_byteOf_9 : decode cX8_byteOf 9 = .ok (.iload_n 1, 1) := by decide +kernel
theorem dX8_byteOf_10 : decode cX8_byteOf 10 = .ok (.iconst 3, 1) := by decide +kernel
theorem dX8_byteOf_11 : decode cX8_byteOf 11 = .ok (.iand, 1) := by decide +kernel
theorem dX8_byteOf_12 : decode cX8_byteOf 12 = .ok (.imul, 1) := by decide +kernel
theorem dX8_byteOf_13 : decode cX8_byteOf 13 = .ok (.isub, 1) := by decide +kernel
theorem dX8_byteOf_14 : decode cX8_byteOf 14 = .ok (.iushr, 1) := by decide +kernel
theorem dX8_byteOf_15 : decode cX8_byteOf 15 = .ok (.sipush 255, 3) := by decide +kernel
theorem dX8_byteOf_18 : decode cX8_byteOf 18 = .ok (.iand, 1) := by decide +kernel
theorem dX8_byteOf_19 : decode cX8_byteOf 19 = .ok (.ireturn, 1) := by decide +kernel
theorem dX8_copyHash_0 : decode cX8_copyHash 0 = .ok (.iconst 0, 1) := by decide +kernel
theorem dX8_copyHash_1 : decode cX8_copyHash 1 = .ok (.istore_n 2, 1) := by decide +kernel
theorem dX8_copyHash_2 : decode cX8_copyHash 2 = .ok (.iload_n 2, 1) := by decide +kernel
theorem dX8_copyHash_3 : decode cX8_copyHash 3 = .ok (.bipush 8, 2) := by decide +kernel
theorem dX8_copyHash_5 : decode cX8_copyHash 5 = .ok (.if_icmp .ge 15, 3) := by decide +kernel
theorem dX8_copyHash_8 : decode cX8_copyHash 8 = .ok (.aload_n 1, 1) := by decide +kernel
theorem dX8_copyHash_9 : decode cX8_copyHash 9 = .ok (.iload_n 2, 1) := by decide +kernel
theorem dX8_copyHash_10 : decode cX8_copyHash 10 = .ok (.aload_n 0, 1) := by decide +kernel
theorem dX8_copyHash_11 : decode cX8_copyHash 11 = .ok (.iload_n 2, 1) := by decide +kernel
theorem dX8_copyHash_12 : decode cX8_copyHash 12 = .ok (.iaload, 1) := by decide +kernel
theorem dX8_copyHash_13 : decode cX8_copyHash 13 = .ok (.iastore, 1) := by decide +kernel
theorem dX8_copyHash_14 : decode cX8_copyHash 14 = .ok (.iinc 2 1, 3) := by decide +kernel
theorem dX8_copyHash_17 : decode cX8_copyHash 17 = .ok (.goto (-15), 3) := by decide +kernel
theorem dX8_copyHash_20 : decode cX8_copyHash 20 = .ok (.return_, 1) := by decide +kernel
theorem dX8_sameHash_0 : decode cX8_sameHash 0 = .ok (.iconst 0, 1) := by decide +kernel
theorem dX8_sameHash_1 : decode cX8_sameHash 1 = .ok (.istore_n 2, 1) := by decide +kernel
theorem dX8_sameHash_2 : decode cX8_sameHash 2 = .ok (.iload_n 2, 1) := by decide +kernel
theorem dX8_sameHash_3 : decode cX8_sameHash 3 = .ok (.bipush 8, 2) := by decide +kernel
theorem dX8_sameHash_5 : decode cX8_sameHash 5 = .ok (.if_icmp .ge 20, 3) := by decide +kernel
theorem dX8_sameHash_8 : decode cX8_sameHash 8 = .ok (.aload_n 0, 1) := by decide +kernel
theorem dX8_sameHash_9 : decode cX8_sameHash 9 = .ok (.iload_n 2, 1) := by decide +kernel
theorem dX8_sameHash_10 : decode cX8_sameHash 10 = .ok (.iaload, 1) := by decide +kernel
theorem dX8_sameHash_11 : decode cX8_sameHash 11 = .ok (.aload_n 1, 1) := by decide +kernel
theorem dX8_sameHash_12 : decode cX8_sameHash 12 = .ok (.iload_n 2, 1) := by decide +kernel
theorem dX8_sameHash_13 : decode cX8_sameHash 13 = .ok (.iaload, 1) := by decide +kernel
theorem dX8_sameHash_14 : decode cX8_sameHash 14 = .ok (.if_icmp .eq 5, 3) := by decide +kernel
theorem dX8_sameHash_17 : decode cX8_sameHash 17 = .ok (.iconst 0, 1) := by decide +kernel
theorem dX8_sameHash_18 : decode cX8_sameHash 18 = .ok (.ireturn, 1) := by decide +kernel
theorem dX8_sameHash_19 : decode cX8_sameHash 19 = .ok (.iinc 2 1, 3) := by decide +kernel
theorem dX8_sameHash_22 : decode cX8_sameHash 22 = .ok (.goto (-20), 3) := by decide +kernel
theorem dX8_sameHash_25 : decode cX8_sameHash 25 = .ok (.iconst 1, 1) := by decide +kernel
theorem dX8_sameHash_26 : decode cX8_sameHash 26 = .ok (.ireturn, 1) := by decide +kernel
theorem dX8_isByte_0 : decode cX8_isByte 0 = .ok (.iload_n 0, 1) := by decide +kernel
theorem dX8_isByte_1 : decode cX8_isByte 1 = .ok (.ifCond .lt 14, 3) := by decide +kernel
theorem dX8_isByte_4 : decode cX8_isByte 4 = .ok (.iload_n 0, 1) := by decide +kernel
theorem dX8_isByte_5 : decode cX8_isByte 5 = .ok (.sipush 255, 3) := by decide +kernel
theorem dX8_isByte_8 : decode cX8_isByte 8 = .ok (.if_icmp .gt 7, 3) := by decide +kernel
theorem dX8_isByte_11 : decode cX8_isByte 11 = .ok (.iconst 1, 1) := by decide +kernel
theorem dX8_isByte_12 : decode cX8_isByte 12 = .ok (.goto 4, 3) := by decide +kernel
theorem dX8_isByte_15 : decode cX8_isByte 15 = .ok (.iconst 0, 1) := by decide +kernel
theorem dX8_isByte_16 : decode cX8_isByte 16 = .ok (.ireturn, 1) := by decide +kernel
theorem dX8_canBeEntry_0 : decode cX8_canBeEntry 0 = .ok (.iload_n 0, 1) := by decide +kernel
theorem dX8_canBeEntry_1 : decode cX8_canBeEntry 1 = .ok (.ifCond .lt 14, 3) := by decide +kernel
theorem dX8_canBeEntry_4 : decode cX8_canBeEntry 4 = .ok (.iload_n 0, 1) := by decide +kernel
theorem dX8_canBeEntry_5 : decode cX8_canBeEntry 5 = .ok (.sipush 200, 3) := by decide +kernel
theorem dX8_canBeEntry_8 : decode cX8_canBeEntry 8 = .ok (.if_icmp .ge 7, 3) := by decide +kernel
theorem dX8_canBeEntry_11 : decode cX8_canBeEntry 11 = .ok (.iconst 1, 1) := by decide +kernel
theorem dX8_canBeEntry_12 : decode cX8_canBeEntry 12 = .ok (.goto 4, 3) := by decide +kernel
theorem dX8_canBeEntry_15 : decode cX8_canBeEntry 15 = .ok (.iconst 0, 1) := by decide +kernel
theorem dX8_canBeEntry_16 : decode cX8_canBeEntry 16 = .ok (.ireturn, 1) := by decide +kernel
theorem dX8_isBelow_0 : decode cX8_isBelow 0 = .ok (.lload_n 0, 1) := by decide +kernel
theorem dX8_isBelow_1 : decode cX8_isBelow 1 = .ok (.ldc2_w 106, 3) := by decide +kernel
theorem dX8_isBelow_4 : decode cX8_isBelow 4 = .ok (.lxor, 1) := by decide +kernel
theorem dX8_isBelow_5 : decode cX8_isBelow 5 = .ok (.lload_n 2, 1) := by decide +kernel
theorem dX8_isBelow_6 : decode cX8_isBelow 6 = .ok (.ldc2_w 106, 3) := by decide +kernel
theorem dX8_isBelow_9 : decode cX8_isBelow 9 = .ok (.lxor, 1) := by decide +kernel
theorem dX8_isBelow_10 : decode cX8_isBelow 10 = .ok (.lcmp, 1) := by decide +kernel
theorem dX8_isBelow_11 : decode cX8_isBelow 11 = .ok (.ifCond .ge 7, 3) := by decide +kernel
theorem dX8_isBelow_14 : decode cX8_isBelow 14 = .ok (.iconst 1, 1) := by decide +kernel
theorem dX8_isBelow_15 : decode cX8_isBelow 15 = .ok (.goto 4, 3) := by decide +kernel
theorem dX8_isBelow_18 : decode cX8_isBelow 18 = .ok (.iconst 0, 1) := by decide +kernel
theorem dX8_isBelow_19 : decode cX8_isBelow 19 = .ok (.ireturn, 1) := by decide +kernel
theorem dX9_init_0 : decode cX9_init 0 = .ok (.aload_n 0, 1) := by decide +kernel
theorem dX9_init_1 : decode cX9_init 1 = .ok (.invokespecial 1, 3) := by decide +kernel
theorem dX9_init_4 : decode cX9_init 4 = .ok (.aload_n 0, 1) := by decide +kernel
theorem dX9_init_5 : decode cX9_init 5 = .ok (.iconst 2, 1) := by decide +kernel
theorem dX9_init_6 : decode cX9_init 6 = .ok (.newarray .int, 2) := by decide +kernel
theorem dX9_init_8 : decode cX9_init 8 = .ok (.putfield 7, 3) := by decide +kernel
theorem dX9_init_11 : decode cX9_init 11 = .ok (.aload_n 0, 1) := by decide +kernel
theorem dX9_init_12 : decode cX9_init 12 = .ok (.iconst 2, 1) := by decide +kernel
theorem dX9_init_13 : decode cX9_init 13 = .ok (.newarray .int, 2) := by decide +kernel
theorem dX9_init_15 : decode cX9_init 15 = .ok (.putfield 13, 3) := by decide +kernel
theorem dX9_init_18 : decode cX9_init 18 = .ok (.aload_n 0, 1) := by decide +kernel
theorem dX9_init_19 : decode cX9_init 19 = .ok (.iconst 2, 1) := by decide +kernel
theorem dX9_init_20 : decode cX9_init 20 = .ok (.newarray .int, 2) := by decide +kernel
theorem dX9_init_22 : decode cX9_init 22 = .ok (.putfield 16, 3) := by decide +kernel
theorem dX9_init_25 : decode cX9_init 25 = .ok (.aload_n 0, 1) := by decide +kernel
theorem dX9_init_26 : decode cX9_init 26 = .ok (.iconst 2, 1) := by decide +kernel
theorem dX9_init_27 : decode cX9_init 27 = .ok (.newarray .int, 2) := by decide +kernel
theorem dX9_init_29 : decode cX9_init 29 = .ok (.putfield 19, 3) := by decide +kernel
theorem dX9_init_32 : decode cX9_init 32 = .ok (.aload_n 0, 1) := by decide +kernel
theorem dX9_init_33 : decode cX9_init 33 = .ok (.iconst 2, 1) := by decide +kernel
theorem dX9_init_34 : decode cX9_init 34 = .ok (.newarray .boolean, 2) := by decide +kernel
theorem dX9_init_36 : decode cX9_init 36 = .ok (.putfield 22, 3) := by decide +kernel
theorem dX9_init_39 : decode cX9_init 39 = .ok (.aload_n 0, 1) := by decide +kernel
theorem dX9_init_40 : decode cX9_init 40 = .ok (.bipush 80, 2) := by decide +kernel
theorem dX9_init_42 : decode cX9_init 42 = .ok (.newarray .long, 2) := by decide +kernel
theorem dX9_init_44 : decode cX9_init 44 = .ok (.putfield 26, 3) := by decide +kernel
theorem dX9_init_47 : decode cX9_init 47 = .ok (.aload_n 0, 1) := by decide +kernel
theorem dX9_init_48 : decode cX9_init 48 = .ok (.bipush 80, 2) := by decide +kernel
theorem dX9_init_50 : decode cX9_init 50 = .ok (.newarray .long, 2) := by decide +kernel
theorem dX9_init_52 : decode cX9_init 52 = .ok (.putfield 30, 3) := by decide +kernel
theorem dX9_init_55 : decode cX9_init 55 = .ok (.aload_n 0, 1) := by decide +kernel
theorem dX9_init_56 : decode cX9_init 56 = .ok (.bipush 80, 2) := by decide +kernel
theorem dX9_init_58 : decode cX9_init 58 = .ok (.newarray .long, 2) := by decide +kernel
theorem dX9_init_60 : decode cX9_init 60 = .ok (.putfield 33, 3) := by decide +kernel
theorem dX9_init_63 : decode cX9_init 63 = .ok (.aload_n 0, 1) := by decide +kernel
theorem dX9_init_64 : decode cX9_init 64 = .ok (.bipush 80, 2) := by decide +kernel
theorem dX9_init_66 : decode cX9_init 66 = .ok (.newarray .long, 2) := by decide +kernel
theorem dX9_init_68 : decode cX9_init 68 = .ok (.putfield 36, 3) := by decide +kernel
theorem dX9_init_71 : decode cX9_init 71 = .ok (.aload_n 0, 1) := by decide +kernel
theorem dX9_init_72 : decode cX9_init 72 = .ok (.sipush 400, 3) := by decide +kernel
theorem dX9_init_75 : decode cX9_init 75 = .ok (.newarray .int, 2) := by decide +kernel
theorem dX9_init_77 : decode cX9_init 77 = .ok (.putfield 39, 3) := by decide +kernel
theorem dX9_init_80 : decode cX9_init 80 = .ok (.aload_n 0, 1) := by decide +kernel
theorem dX9_init_81 : decode cX9_init 81 = .ok (.sipush 400, 3) := by decide +kernel
theorem dX9_init_84 : decode cX9_init 84 = .ok (.newarray .long, 2) := by decide +kernel
theorem dX9_init_86 : decode cX9_init 86 = .ok (.putfield 42, 3) := by decide +kernel
theorem dX9_init_89 : decode cX9_init 89 = .ok (.aload_n 0, 1) := by decide +kernel
theorem dX9_init_90 : decode cX9_init 90 = .ok (.sipush 400, 3) := by decide +kernel
theorem dX9_init_93 : decode cX9_init 93 = .ok (.newarray .int, 2) := by decide +kernel
theorem dX9_init_95 : decode cX9_init 95 = .ok (.putfield 45, 3) := by decide +kernel
theorem dX9_init_98 : decode cX9_init 98 = .ok (.aload_n 0, 1) := by decide +kernel
theorem dX9_init_99 : decode cX9_init 99 = .ok (.sipush 3200, 3) := by decide +kernel
theorem dX9_init_102 : decode cX9_init 102 = .ok (.newarray .int, 2) := by decide +kernel
theorem dX9_init_104 : decode cX9_init 104 = .ok (.putfield 48, 3) := by decide +kernel
theorem dX9_init_107 : decode cX9_init 107 = .ok (.aload_n 0, 1) := by decide +kernel
theorem dX9_init_108 : decode cX9_init 108 = .ok (.sipush 3200, 3) := by decide +kernel
theorem dX9_init_111 : decode cX9_init 111 = .ok (.newarray .long, 2) := by decide +kernel
theorem dX9_init_113 : decode cX9_init 113 = .ok (.putfield 51, 3) := by decide +kernel
theorem dX9_init_116 : decode cX9_init 116 = .ok (.aload_n 0, 1) := by decide +kernel
theorem dX9_init_117 : decode cX9_init 117 = .ok (.sipush 400, 3) := by decide +kernel
theorem dX9_init_120 : decode cX9_init 120 = .ok (.newarray .int, 2) := by decide +kernel
theorem dX9_init_122 : decode cX9_init 122 = .ok (.putfield 54, 3) := by decide +kernel
theorem dX9_init_125 : decode cX9_init 125 = .ok (.aload_n 0, 1) := by decide +kernel
theorem dX9_init_126 : decode cX9_init 126 = .ok (.sipush 400, 3) := by decide +kernel
theorem dX9_init_129 : decode cX9_init 129 = .ok (.newarray .long, 2) := by decide +kernel
theorem dX9_init_131 : decode cX9_init 131 = .ok (.putfield 57, 3) := by decide +kernel
theorem dX9_init_134 : decode cX9_init 134 = .ok (.aload_n 0, 1) := by decide +kernel
theorem dX9_init_135 : decode cX9_init 135 = .ok (.sipush 400, 3) := by decide +kernel
theorem dX9_init_138 : decode cX9_init 138 = .ok (.newarray .boolean, 2) := by decide +kernel
theorem dX9_init_140 : decode cX9_init 140 = .ok (.putfield 60, 3) := by decide +kernel
theorem dX9_init_143 : decode cX9_init 143 = .ok (.aload_n 0, 1) := by decide +kernel
theorem dX9_init_144 : decode cX9_init 144 = .ok (.sipush 400, 3) := by decide +kernel
theorem dX9_init_147 : decode cX9_init 147 = .ok (.newarray .int, 2) := by decide +kernel
theorem dX9_init_149 : decode cX9_init 149 = .ok (.putfield 63, 3) := by decide +kernel
theorem dX9_init_152 : decode cX9_init 152 = .ok (.aload_n 0, 1) := by decide +kernel
theorem dX9_init_153 : decode cX9_init 153 = .ok (.sipush 17000, 3) := by decide +kernel
theorem dX9_init_156 : decode cX9_init 156 = .ok (.newarray .int, 2) := by decide +kernel
theorem dX9_init_158 : decode cX9_init 158 = .ok (.putfield 66, 3) := by decide +kernel
theorem dX9_init_161 : decode cX9_init 161 = .ok (.aload_n 0, 1) := by decide +kernel
theorem dX9_init_162 : decode cX9_init 162 = .ok (.sipush 17000, 3) := by decide +kernel
theorem dX9_init_165 : decode cX9_init 165 = .ok (.newarray .int, 2) := by decide +kernel
theorem dX9_init_167 : decode cX9_init 167 = .ok (.putfield 69, 3) := by decide +kernel
theorem dX9_init_170 : decode cX9_init 170 = .ok (.aload_n 0, 1) := by decide +kernel
theorem dX9_init_171 : decode cX9_init 171 = .ok (.sipush 200, 3) := by decide +kernel
theorem dX9_init_174 : decode cX9_init 174 = .ok (.newarray .int, 2) := by decide +kernel
theorem dX9_init_176 : decode cX9_init 176 = .ok (.putfield 72, 3) := by decide +kernel
theorem dX9_init_179 : decode cX9_init 179 = .ok (.aload_n 0, 1) := by decide +kernel
theorem dX9_init_180 : decode cX9_init 180 = .ok (.sipush 200, 3) := by decide +kernel
theorem dX9_init_183 : decode cX9_init 183 = .ok (.newarray .int, 2) := by decide +kernel
theorem dX9_init_185 : decode cX9_init 185 = .ok (.putfield 75, 3) := by decide +kernel
theorem dX9_init_188 : decode cX9_init 188 = .ok (.aload_n 0, 1) := by decide +kernel
theorem dX9_init_189 : decode cX9_init 189 = .ok (.sipush 210, 3) := by decide +kernel
theorem dX9_init_192 : decode cX9_init 192 = .ok (.newarray .int, 2) := by decide +kernel
theorem dX9_init_194 : decode cX9_init 194 = .ok (.putfield 78, 3) := by decide +kernel
theorem dX9_init_197 : decode cX9_init 197 = .ok (.aload_n 0, 1) := by decide +kernel
theorem dX9_init_198 : decode cX9_init 198 = .ok (.sipush 210, 3) := by decide +kernel
theorem dX9_init_201 : decode cX9_init 201 = .ok (.newarray .int, 2) := by decide +kernel
theorem dX9_init_203 : decode cX9_init 203 = .ok (.putfield 81, 3) := by decide +kernel
theorem dX9_init_206 : decode cX9_init 206 = .ok (.aload_n 0, 1) := by decide +kernel
theorem dX9_init_207 : decode cX9_init 207 = .ok (.bipush 8, 2) := by decide +kernel
theorem dX9_init_209 : decode cX9_init 209 = .ok (.newarray .int, 2) := by decide +kernel
theorem dX9_init_211 : decode cX9_init 211 = .ok (.putfield 84, 3) := by decide +kernel
theorem dX9_init_214 : decode cX9_init 214 = .ok (.aload_n 0, 1) := by decide +kernel
theorem dX9_init_215 : decode cX9_init 215 = .ok (.bipush 8, 2) := by decide +kernel
theorem dX9_init_217 : decode cX9_init 217 = .ok (.newarray .long, 2) := by decide +kernel
theorem dX9_init_219 : decode cX9_init 219 = .ok (.putfield 87, 3) := by decide +kernel
theorem dX9_init_222 : decode cX9_init 222 = .ok (.aload_n 0, 1) := by decide +kernel
theorem dX9_init_223 : decode cX9_init 223 = .ok (.bipush 100, 2) := by decide +kernel
theorem dX9_init_225 : decode cX9_init 225 = .ok (.newarray .int, 2) := by decide +kernel
theorem dX9_init_227 : decode cX9_init 227 = .ok (.putfield 90, 3) := by decide +kernel
theorem dX9_init_230 : decode cX9_init 230 = .ok (.aload_n 0, 1) := by decide +kernel
theorem dX9_init_231 : decode cX9_init 231 = .ok (.bipush 40, 2) := by decide +kernel
theorem dX9_init_233 : decode cX9_init 233 = .ok (.newarray .long, 2) := by decide +kernel
theorem dX9_init_235 : decode cX9_init 235 = .ok (.putfield 93, 3) := by decide +kernel
theorem dX9_init_238 : decode cX9_init 238 = .ok (.aload_n 0, 1) := by decide +kernel
theorem dX9_init_239 : decode cX9_init 239 = .ok (.bipush 8, 2) := by decide +kernel
theorem dX9_init_241 : decode cX9_init 241 = .ok (.newarray .int, 2) := by decide +kernel
theorem dX9_init_243 : decode cX9_init 243 = .ok (.putfield 96, 3) := by decide +kernel
theorem dX9_init_246 : decode cX9_init 246 = .ok (.aload_n 0, 1) := by decide +kernel
theorem dX9_init_247 : decode cX9_init 247 = .ok (.bipush 8, 2) := by decide +kernel
theorem dX9_init_249 : decode cX9_init 249 = .ok (.newarray .long, 2) := by decide +kernel
theorem dX9_init_251 : decode cX9_init 251 = .ok (.putfield 99, 3) := by decide +kernel
theorem dX9_init_254 : decode cX9_init 254 = .ok (.aload_n 0, 1) := by decide +kernel
theorem dX9_init_255 : decode cX9_init 255 = .ok (.bipush 64, 2) := by decide +kernel
theorem dX9_init_257 : decode cX9_init 257 = .ok (.newarray .int, 2) := by decide +kernel
theorem dX9_init_259 : decode cX9_init 259 = .ok (.dup, 1) := by decide +kernel
theorem dX9_init_260 : decode cX9_init 260 = .ok (.iconst 0, 1) := by decide +kernel
theorem dX9_init_261 : decode cX9_init 261 = .ok (.ldc 102, 2) := by decide +kernel
theorem dX9_init_263 : decode cX9_init 263 = .ok (.iastore, 1) := by decide +kernel
theorem dX9_init_264 : decode cX9_init 264 = .ok (.dup, 1) := by decide +kernel
theorem dX9_init_265 : decode cX9_init 265 = .ok (.iconst 1, 1) := by decide +kernel
theorem dX9_init_266 : decode cX9_init 266 = .ok (.ldc 103, 2) := by decide +kernel
theorem dX9_init_268 : decode cX9_init 268 = .ok (.iastore, 1) := by decide +kernel
theorem dX9_init_269 : decode cX9_init 269 = .ok (.dup, 1) := by decide +kernel
theorem dX9_init_270 : decode cX9_init 270 = .ok (.iconst 2, 1) := by decide +kernel
theorem dX9_init_271 : decode cX9_init 271 = .ok (.ldc 104, 2) := by decide +kernel
theorem dX9_init_273 : decode cX9_init 273 = .ok (.iastore, 1) := by decide +kernel
theorem dX9_init_274 : decode cX9_init 274 = .ok (.dup, 1) := by decide +kernel
theorem dX9_init_275 : decode cX9_init 275 = .ok (.iconst 3, 1) := by decide +kernel
theorem dX9_init_276 : decode cX9_init 276 = .ok (.ldc 105, 2) := by decide +kernel
theorem dX9_init_278 : decode cX9_init 278 = .ok (.iastore, 1) := by decide +kernel
theorem dX9_init_279 : decode cX9_init 279 = .ok (.dup, 1) := by decide +kernel
theorem dX9_init_280 : decode cX9_init 280 = .ok (.iconst 4, 1) := by decide +kernel
theorem dX9_init_281 : decode cX9_init 281 = .ok (.ldc 106, 2) := by decide +kernel
theorem dX9_init_283 : decode cX9_init 283 = .ok (.iastore, 1) := by decide +kernel
theorem dX9_init_284 : decode cX9_init 284 = .ok (.dup, 1) := by decide +kernel
theorem dX9_init_285 : decode cX9_init 285 = .ok (.iconst 5, 1) := by decide +kernel
theorem dX9_init_286 : decode cX9_init 286 = .ok (.ldc 107, 2) := by decide +kernel
theorem dX9_init_288 : decode cX9_init 288 = .ok (.iastore, 1) := by decide +kernel
theorem dX9_init_289 : decode cX9_init 289 = .ok (.dup, 1) := by decide +kernel
theorem dX9_init_290 : decode cX9_init 290 = .ok (.bipush 6, 2) := by decide +kernel
theorem dX9_init_292 : decode cX9_init 292 = .ok (.ldc 108, 2) := by decide +kernel
theorem dX9_init_294 : decode cX9_init 294 = .ok (.iastore, 1) := by decide +kernel
theorem dX9_init_295 : decode cX9_init 295 = .ok (.dup, 1) := by decide +kernel
theorem dX9_init_296 : decode cX9_init 296 = .ok (.bipush 7, 2) := by decide +kernel
theorem dX9_init_298 : decode cX9_init 298 = .ok (.ldc 109, 2) := by decide +kernel
theorem dX9_init_300 : decode cX9_init 300 = .ok (.iastore, 1) := by decide +kernel
theorem dX9_init_301 : decode cX9_init 301 = .ok (.dup, 1) := by decide +kernel
theorem dX9_init_302 : decode cX9_init 302 = .ok (.bipush 8, 2) := by decide +kernel
theorem dX9_init_304 : decode cX9_init 304 = .ok (.ldc 110, 2) := by decide +kernel
theorem dX9_init_306 : decode cX9_init 306 = .ok (.iastore, 1) := by decide +kernel
theorem dX9_init_307 : decode cX9_init 307 = .ok (.dup, 1) := by decide +kernel
theorem dX9_init_308 : decode cX9_init 308 = .ok (.bipush 9, 2) := by decide +kernel
theorem dX9_init_310 : decode cX9_init 310 = .ok (.ldc 111, 2) := by decide +kernel
theorem dX9_init_312 : decode cX9_init 312 = .ok (.iastore, 1) := by decide +kernel
theorem dX9_init_313 : decode cX9_init 313 = .ok (.dup, 1) := by decide +kernel
theorem dX9_init_314 : decode cX9_init 314 = .ok (.bipush 10, 2) := by decide +kernel
theorem dX9_init_316 : decode cX9_init 316 = .ok (.ldc 112, 2) := by decide +kernel
theorem dX9_init_318 : decode cX9_init 318 = .ok (.iastore, 1) := by decide +kernel
theorem dX9_init_319 : decode cX9_init 319 = .ok (.dup, 1) := by decide +kernel
theorem dX9_init_320 : decode cX9_init 320 = .ok (.bipush 11, 2) := by decide +kernel
theorem dX9_init_322 : decode cX9_init 322 = .ok (.ldc 113, 2) := by decide +kernel
theorem dX9_init_324 : decode cX9_init 324 = .ok (.iastore, 1) := by decide +kernel
theorem dX9_init_325 : decode cX9_init 325 = .ok (.dup, 1) := by decide +kernel
theorem dX9_init_326 : decode cX9_init 326 = .ok (.bipush 12, 2) := by decide +kernel
theorem dX9_init_328 : decode cX9_init 328 = .ok (.ldc 114, 2) := by decide +kernel
theorem dX9_init_330 : decode cX9_init 330 = .ok (.iastore, 1) := by decide +kernel
theorem dX9_init_331 : decode cX9_init 331 = .ok (.dup, 1) := by decide +kernel
theorem dX9_init_332 : decode cX9_init 332 = .ok (.bipush 13, 2) := by decide +kernel
theorem dX9_init_334 : decode cX9_init 334 = .ok (.ldc 115, 2) := by decide +kernel
theorem dX9_init_336 : decode cX9_init 336 = .ok (.iastore, 1) := by decide +kernel
theorem dX9_init_337 : decode cX9_init 337 = .ok (.dup, 1) := by decide +kernel
theorem dX9_init_338 : decode cX9_init 338 = .ok (.bipush 14, 2) := by decide +kernel
theorem dX9_init_340 : decode cX9_init 340 = .ok (.ldc 116, 2) := by decide +kernel
theorem dX9_init_342 : decode cX9_init 342 = .ok (.iastore, 1) := by decide +kernel
theorem dX9_init_343 : decode cX9_init 343 = .ok (.dup, 1) := by decide +kernel
theorem dX9_init_344 : decode cX9_init 344 = .ok (.bipush 15, 2) := by decide +kernel
theorem dX9_init_346 : decode cX9_init 346 = .ok (.ldc 117, 2) := by decide +kernel
theorem dX9_init_348 : decode cX9_init 348 = .ok (.iastore, 1) := by decide +kernel
theorem dX9_init_349 : decode cX9_init 349 = .ok (.dup, 1) := by decide +kernel
theorem dX9_init_350 : decode cX9_init 350 = .ok (.bipush 16, 2) := by decide +kernel
theorem dX9_init_352 : decode cX9_init 352 = .ok (.ldc 118, 2) := by decide +kernel
theorem dX9_init_354 : decode cX9_init 354 = .ok (.iastore, 1) := by decide +kernel
theorem dX9_init_355 : decode cX9_init 355 = .ok (.dup, 1) := by decide +kernel
theorem dX9_init_356 : decode cX9_init 356 = .ok (.bipush 17, 2) := by decide +kernel
theorem dX9_init_358 : decode cX9_init 358 = .ok (.ldc 119, 2) := by decide +kernel
theorem dX9_init_360 : decode cX9_init 360 = .ok (.iastore, 1) := by decide +kernel
theorem dX9_init_361 : decode cX9_init 361 = .ok (.dup, 1) := by decide +kernel
theorem dX9_init_362 : decode cX9_init 362 = .ok (.bipush 18, 2) := by decide +kernel
theorem dX9_init_364 : decode cX9_init 364 = .ok (.ldc 120, 2) := by decide +kernel
theorem dX9_init_366 : decode cX9_init 366 = .ok (.iastore, 1) := by decide +kernel
theorem dX9_init_367 : decode cX9_init 367 = .ok (.dup, 1) := by decide +kernel
theorem dX9_init_368 : decode cX9_init 368 = .ok (.bipush 19, 2) := by decide +kernel
theorem dX9_init_370 : decode cX9_init 370 = .ok (.ldc 121, 2) := by decide +kernel
theorem dX9_init_372 : decode cX9_init 372 = .ok (.iastore, 1) := by decide +kernel
theorem dX9_init_373 : decode cX9_init 373 = .ok (.dup, 1) := by decide +kernel
theorem dX9_init_374 : decode cX9_init 374 = .ok (.bipush 20, 2) := by decide +kernel
theorem dX9_init_376 : decode cX9_init 376 = .ok (.ldc 122, 2) := by decide +kernel
theorem dX9_init_378 : decode cX9_init 378 = .ok (.iastore, 1) := by decide +kernel
theorem dX9_init_379 : decode cX9_init 379 = .ok (.dup, 1) := by decide +kernel
theorem dX9_init_380 : decode cX9_init 380 = .ok (.bipush 21, 2) := by decide +kernel
theorem dX9_init_382 : decode cX9_init 382 = .ok (.ldc 123, 2) := by decide +kernel
theorem dX9_init_384 : decode cX9_init 384 = .ok (.iastore, 1) := by decide +kernel
theorem dX9_init_385 : decode cX9_init 385 = .ok (.dup, 1) := by decide +kernel
theorem dX9_init_386 : decode cX9_init 386 = .ok (.bipush 22, 2) := by decide +kernel
theorem dX9_init_388 : decode cX9_init 388 = .ok (.ldc 124, 2) := by decide +kernel
theorem dX9_init_390 : decode cX9_init 390 = .ok (.iastore, 1) := by decide +kernel
theorem dX9_init_391 : decode cX9_init 391 = .ok (.dup, 1) := by decide +kernel
theorem dX9_init_392 : decode cX9_init 392 = .ok (.bipush 23, 2) := by decide +kernel
theorem dX9_init_394 : decode cX9_init 394 = .ok (.ldc 125, 2) := by decide +kernel
theorem dX9_init_396 : decode cX9_init 396 = .ok (.iastore, 1) := by decide +kernel
theorem dX9_init_397 : decode cX9_init 397 = .ok (.dup, 1) := by decide +kernel
theorem dX9_init_398 : decode cX9_init 398 = .ok (.bipush 24, 2) := by decide +kernel
theorem dX9_init_400 : decode cX9_init 400 = .ok (.ldc 126, 2) := by decide +kernel
theorem dX9_init_402 : decode cX9_init 402 = .ok (.iastore, 1) := by decide +kernel
theorem dX9_init_403 : decode cX9_init 403 = .ok (.dup, 1) := by decide +kernel
theorem dX9_init_404 : decode cX9_init 404 = .ok (.bipush 25, 2) := by decide +kernel
theorem dX9_init_406 : decode cX9_init 406 = .ok (.ldc 127, 2) := by decide +kernel
theorem dX9_init_408 : decode cX9_init 408 = .ok (.iastore, 1) := by decide +kernel
theorem dX9_init_409 : decode cX9_init 409 = .ok (.dup, 1) := by decide +kernel
theorem dX9_init_410 : decode cX9_init 410 = .ok (.bipush 26, 2) := by decide +kernel
theorem dX9_init_412 : decode cX9_init 412 = .ok (.ldc 128, 2) := by decide +kernel
theorem dX9_init_414 : decode cX9_init 414 = .ok (.iastore, 1) := by decide +kernel
theorem dX9_init_415 : decode cX9_init 415 = .ok (.dup, 1) := by decide +kernel
theorem dX9_init_416 : decode cX9_init 416 = .ok (.bipush 27, 2) := by decide +kernel
theorem dX9_init_418 : decode cX9_init 418 = .ok (.ldc 129, 2) := by decide +kernel
theorem dX9_init_420 : decode cX9_init 420 = .ok (.iastore, 1) := by decide +kernel
theorem dX9_init_421 : decode cX9_init 421 = .ok (.dup, 1) := by decide +kernel
theorem dX9_init_422 : decode cX9_init 422 = .ok (.bipush 28, 2) := by decide +kernel
theorem dX9_init_424 : decode cX9_init 424 = .ok (.ldc 130, 2) := by decide +kernel
theorem dX9_init_426 : decode cX9_init 426 = .ok (.iastore, 1) := by decide +kernel
theorem dX9_init_427 : decode cX9_init 427 = .ok (.dup, 1) := by decide +kernel
theorem dX9_init_428 : decode cX9_init 428 = .ok (.bipush 29, 2) := by decide +kernel
theorem dX9_init_430 : decode cX9_init 430 = .ok (.ldc 131, 2) := by decide +kernel
theorem dX9_init_432 : decode cX9_init 432 = .ok (.iastore, 1) := by decide +kernel
theorem dX9_init_433 : decode cX9_init 433 = .ok (.dup, 1) := by decide +kernel
theorem dX9_init_434 : decode cX9_init 434 = .ok (.bipush 30, 2) := by decide +kernel
theorem dX9_init_436 : decode cX9_init 436 = .ok (.ldc 132, 2) := by decide +kernel
theorem dX9_init_438 : decode cX9_init 438 = .ok (.iastore, 1) := by decide +kernel
theorem dX9_init_439 : decode cX9_init 439 = .ok (.dup, 1) := by decide +kernel
theorem dX9_init_440 : decode cX9_init 440 = .ok (.bipush 31, 2) := by decide +kernel
theorem dX9_init_442 : decode cX9_init 442 = .ok (.ldc 133, 2) := by decide +kernel
theorem dX9_init_444 : decode cX9_init 444 = .ok (.iastore, 1) := by decide +kernel
theorem dX9_init_445 : decode cX9_init 445 = .ok (.dup, 1) := by decide +kernel
theorem dX9_init_446 : decode cX9_init 446 = .ok (.bipush 32, 2) := by decide +kernel
theorem dX9_init_448 : decode cX9_init 448 = .ok (.ldc 134, 2) := by decide +kernel
theorem dX9_init_450 : decode cX9_init 450 = .ok (.iastore, 1) := by decide +kernel
theorem dX9_init_451 : decode cX9_init 451 = .ok (.dup, 1) := by decide +kernel
theorem dX9_init_452 : decode cX9_init 452 = .ok (.bipush 33, 2) := by decide +kernel
theorem dX9_init_454 : decode cX9_init 454 = .ok (.ldc 135, 2) := by decide +kernel
theorem dX9_init_456 : decode cX9_init 456 = .ok (.iastore, 1) := by decide +kernel
theorem dX9_init_457 : decode cX9_init 457 = .ok (.dup, 1) := by decide +kernel
theorem dX9_init_458 : decode cX9_init 458 = .ok (.bipush 34, 2) := by decide +kernel
theorem dX9_init_460 : decode cX9_init 460 = .ok (.ldc 136, 2) := by decide +kernel
theorem dX9_init_462 : decode cX9_init 462 = .ok (.iastore, 1) := by decide +kernel
theorem dX9_init_463 : decode cX9_init 463 = .ok (.dup, 1) := by decide +kernel
theorem dX9_init_464 : decode cX9_init 464 = .ok (.bipush 35, 2) := by decide +kernel
theorem dX9_init_466 : decode cX9_init 466 = .ok (.ldc 137, 2) := by decide +kernel
theorem dX9_init_468 : decode cX9_init 468 = .ok (.iastore, 1) := by decide +kernel
theorem dX9_init_469 : decode cX9_init 469 = .ok (.dup, 1) := by decide +kernel
theorem dX9_init_470 : decode cX9_init 470 = .ok (.bipush 36, 2) := by decide +kernel
theorem dX9_init_472 : decode cX9_init 472 = .ok (.ldc 138, 2) := by decide +kernel
theorem dX9_init_474 : decode cX9_init 474 = .ok (.iastore, 1) := by decide +kernel
theorem dX9_init_475 : decode cX9_init 475 = .ok (.dup, 1) := by decide +kernel
theorem dX9_init_476 : decode cX9_init 476 = .ok (.bipush 37, 2) := by decide +kernel
theorem dX9_init_478 : decode cX9_init 478 = .ok (.ldc 139, 2) := by decide +kernel
theorem dX9_init_480 : decode cX9_init 480 = .ok (.iastore, 1) := by decide +kernel
theorem dX9_init_481 : decode cX9_init 481 = .ok (.dup, 1) := by decide +kernel
theorem dX9_init_482 : decode cX9_init 482 = .ok (.bipush 38, 2) := by decide +kernel
theorem dX9_init_484 : decode cX9_init 484 = .ok (.ldc 140, 2) := by decide +kernel
theorem dX9_init_486 : decode cX9_init 486 = .ok (.iastore, 1) := by decide +kernel
theorem dX9_init_487 : decode cX9_init 487 = .ok (.dup, 1) := by decide +kernel
theorem dX9_init_488 : decode cX9_init 488 = .ok (.bipush 39, 2) := by decide +kernel
theorem dX9_init_490 : decode cX9_init 490 = .ok (.ldc 141, 2) := by decide +kernel
theorem dX9_init_492 : decode cX9_init 492 = .ok (.iastore, 1) := by decide +kernel
theorem dX9_init_493 : decode cX9_init 493 = .ok (.dup, 1) := by decide +kernel
theorem dX9_init_494 : decode cX9_init 494 = .ok (.bipush 40, 2) := by decide +kernel
theorem dX9_init_496 : decode cX9_init 496 = .ok (.ldc 142, 2) := by decide +kernel
theorem dX9_init_498 : decode cX9_init 498 = .ok (.iastore, 1) := by decide +kernel
theorem dX9_init_499 : decode cX9_init 499 = .ok (.dup, 1) := by decide +kernel
theorem dX9_init_500 : decode cX9_init 500 = .ok (.bipush 41, 2) := by decide +kernel
theorem dX9_init_502 : decode cX9_init 502 = .ok (.ldc 143, 2) := by decide +kernel
theorem dX9_init_504 : decode cX9_init 504 = .ok (.iastore, 1) := by decide +kernel
theorem dX9_init_505 : decode cX9_init 505 = .ok (.dup, 1) := by decide +kernel
theorem dX9_init_506 : decode cX9_init 506 = .ok (.bipush 42, 2) := by decide +kernel
theorem dX9_init_508 : decode cX9_init 508 = .ok (.ldc 144, 2) := by decide +kernel
theorem dX9_init_510 : decode cX9_init 510 = .ok (.iastore, 1) := by decide +kernel
theorem dX9_init_511 : decode cX9_init 511 = .ok (.dup, 1) := by decide +kernel
theorem dX9_init_512 : decode cX9_init 512 = .ok (.bipush 43, 2) := by decide +kernel
theorem dX9_init_514 : decode cX9_init 514 = .ok (.ldc 145, 2) := by decide +kernel
theorem dX9_init_516 : decode cX9_init 516 = .ok (.iastore, 1) := by decide +kernel
theorem dX9_init_517 : decode cX9_init 517 = .ok (.dup, 1) := by decide +kernel
theorem dX9_init_518 : decode cX9_init 518 = .ok (.bipush 44, 2) := by decide +kernel
theorem dX9_init_520 : decode cX9_init 520 = .ok (.ldc 146, 2) := by decide +kernel
theorem dX9_init_522 : decode cX9_init 522 = .ok (.iastore, 1) := by decide +kernel
theorem dX9_init_523 : decode cX9_init 523 = .ok (.dup, 1) := by decide +kernel
theorem dX9_init_524 : decode cX9_init 524 = .ok (.bipush 45, 2) := by decide +kernel
theorem dX9_init_526 : decode cX9_init 526 = .ok (.ldc 147, 2) := by decide +kernel
theorem dX9_init_528 : decode cX9_init 528 = .ok (.iastore, 1) := by decide +kernel
theorem dX9_init_529 : decode cX9_init 529 = .ok (.dup, 1) := by decide +kernel
theorem dX9_init_530 : decode cX9_init 530 = .ok (.bipush 46, 2) := by decide +kernel
theorem dX9_init_532 : decode cX9_init 532 = .ok (.ldc 148, 2) := by decide +kernel
theorem dX9_init_534 : decode cX9_init 534 = .ok (.iastore, 1) := by decide +kernel
theorem dX9_init_535 : decode cX9_init 535 = .ok (.dup, 1) := by decide +kernel
theorem dX9_init_536 : decode cX9_init 536 = .ok (.bipush 47, 2) := by decide +kernel
theorem dX9_init_538 : decode cX9_init 538 = .ok (.ldc 149, 2) := by decide +kernel
theorem dX9_init_540 : decode cX9_init 540 = .ok (.iastore, 1) := by decide +kernel
theorem dX9_init_541 : decode cX9_init 541 = .ok (.dup, 1) := by decide +kernel
theorem dX9_init_542 : decode cX9_init 542 = .ok (.bipush 48, 2) := by decide +kernel
theorem dX9_init_544 : decode cX9_init 544 = .ok (.ldc 150, 2) := by decide +kernel
theorem dX9_init_546 : decode cX9_init 546 = .ok (.iastore, 1) := by decide +kernel
theorem dX9_init_547 : decode cX9_init 547 = .ok (.dup, 1) := by decide +kernel
theorem dX9_init_548 : decode cX9_init 548 = .ok (.bipush 49, 2) := by decide +kernel
theorem dX9_init_550 : decode cX9_init 550 = .ok (.ldc 151, 2) := by decide +kernel
theorem dX9_init_552 : decode cX9_init 552 = .ok (.iastore, 1) := by decide +kernel
theorem dX9_init_553 : decode cX9_init 553 = .ok (.dup, 1) := by decide +kernel
theorem dX9_init_554 : decode cX9_init 554 = .ok (.bipush 50, 2) := by decide +kernel
theorem dX9_init_556 : decode cX9_init 556 = .ok (.ldc 152, 2) := by decide +kernel
theorem dX9_init_558 : decode cX9_init 558 = .ok (.iastore, 1) := by decide +kernel
theorem dX9_init_559 : decode cX9_init 559 = .ok (.dup, 1) := by decide +kernel
theorem dX9_init_560 : decode cX9_init 560 = .ok (.bipush 51, 2) := by decide +kernel
theorem dX9_init_562 : decode cX9_init 562 = .ok (.ldc 153, 2) := by decide +kernel
theorem dX9_init_564 : decode cX9_init 564 = .ok (.iastore, 1) := by decide +kernel
theorem dX9_init_565 : decode cX9_init 565 = .ok (.dup, 1) := by decide +kernel
theorem dX9_init_566 : decode cX9_init 566 = .ok (.bipush 52, 2) := by decide +kernel
theorem dX9_init_568 : decode cX9_init 568 = .ok (.ldc 154, 2) := by decide +kernel
theorem dX9_init_570 : decode cX9_init 570 = .ok (.iastore, 1) := by decide +kernel
theorem dX9_init_571 : decode cX9_init 571 = .ok (.dup, 1) := by decide +kernel
theorem dX9_init_572 : decode cX9_init 572 = .ok (.bipush 53, 2) := by decide +kernel
theorem dX9_init_574 : decode cX9_init 574 = .ok (.ldc 155, 2) := by decide +kernel
theorem dX9_init_576 : decode cX9_init 576 = .ok (.iastore, 1) := by decide +kernel
theorem dX9_init_577 : decode cX9_init 577 = .ok (.dup, 1) := by decide +kernel
theorem dX9_init_578 : decode cX9_init 578 = .ok (.bipush 54, 2) := by decide +kernel
theorem dX9_init_580 : decode cX9_init 580 = .ok (.ldc 156, 2) := by decide +kernel
theorem dX9_init_582 : decode cX9_init 582 = .ok (.iastore, 1) := by decide +kernel
theorem dX9_init_583 : decode cX9_init 583 = .ok (.dup, 1) := by decide +kernel
theorem dX9_init_584 : decode cX9_init 584 = .ok (.bipush 55, 2) := by decide +kernel
theorem dX9_init_586 : decode cX9_init 586 = .ok (.ldc 157, 2) := by decide +kernel
theorem dX9_init_588 : decode cX9_init 588 = .ok (.iastore, 1) := by decide +kernel
theorem dX9_init_589 : decode cX9_init 589 = .ok (.dup, 1) := by decide +kernel
theorem dX9_init_590 : decode cX9_init 590 = .ok (.bipush 56, 2) := by decide +kernel
theorem dX9_init_592 : decode cX9_init 592 = .ok (.ldc 158, 2) := by decide +kernel
theorem dX9_init_594 : decode cX9_init 594 = .ok (.iastore, 1) := by decide +kernel
theorem dX9_init_595 : decode cX9_init 595 = .ok (.dup, 1) := by decide +kernel
theorem dX9_init_596 : decode cX9_init 596 = .ok (.bipush 57, 2) := by decide +kernel
theorem dX9_init_598 : decode cX9_init 598 = .ok (.ldc 159, 2) := by decide +kernel
theorem dX9_init_600 : decode cX9_init 600 = .ok (.iastore, 1) := by decide +kernel
theorem dX9_init_601 : decode cX9_init 601 = .ok (.dup, 1) := by decide +kernel
theorem dX9_init_602 : decode cX9_init 602 = .ok (.bipush 58, 2) := by decide +kernel
theorem dX9_init_604 : decode cX9_init 604 = .ok (.ldc 160, 2) := by decide +kernel
theorem dX9_init_606 : decode cX9_init 606 = .ok (.iastore, 1) := by decide +kernel
theorem dX9_init_607 : decode cX9_init 607 = .ok (.dup, 1) := by decide +kernel
theorem dX9_init_608 : decode cX9_init 608 = .ok (.bipush 59, 2) := by decide +kernel
theorem dX9_init_610 : decode cX9_init 610 = .ok (.ldc 161, 2) := by decide +kernel
theorem dX9_init_612 : decode cX9_init 612 = .ok (.iastore, 1) := by decide +kernel
theorem dX9_init_613 : decode cX9_init 613 = .ok (.dup, 1) := by decide +kernel
theorem dX9_init_614 : decode cX9_init 614 = .ok (.bipush 60, 2) := by decide +kernel
theorem dX9_init_616 : decode cX9_init 616 = .ok (.ldc 162, 2) := by decide +kernel
theorem dX9_init_618 : decode cX9_init 618 = .ok (.iastore, 1) := by decide +kernel
theorem dX9_init_619 : decode cX9_init 619 = .ok (.dup, 1) := by decide +kernel
theorem dX9_init_620 : decode cX9_init 620 = .ok (.bipush 61, 2) := by decide +kernel
theorem dX9_init_622 : decode cX9_init 622 = .ok (.ldc 163, 2) := by decide +kernel
theorem dX9_init_624 : decode cX9_init 624 = .ok (.iastore, 1) := by decide +kernel
theorem dX9_init_625 : decode cX9_init 625 = .ok (.dup, 1) := by decide +kernel
theorem dX9_init_626 : decode cX9_init 626 = .ok (.bipush 62, 2) := by decide +kernel
theorem dX9_init_628 : decode cX9_init 628 = .ok (.ldc 164, 2) := by decide +kernel
theorem dX9_init_630 : decode cX9_init 630 = .ok (.iastore, 1) := by decide +kernel
theorem dX9_init_631 : decode cX9_init 631 = .ok (.dup, 1) := by decide +kernel
theorem dX9_init_632 : decode cX9_init 632 = .ok (.bipush 63, 2) := by decide +kernel
theorem dX9_init_634 : decode cX9_init 634 = .ok (.ldc 165, 2) := by decide +kernel
theorem dX9_init_636 : decode cX9_init 636 = .ok (.iastore, 1) := by decide +kernel
theorem dX9_init_637 : decode cX9_init 637 = .ok (.putfield 166, 3) := by decide +kernel
theorem dX9_init_640 : decode cX9_init 640 = .ok (.aload_n 0, 1) := by decide +kernel
theorem dX9_init_641 : decode cX9_init 641 = .ok (.sipush 256, 3) := by decide +kernel
theorem dX9_init_644 : decode cX9_init 644 = .ok (.newarray .int, 2) := by decide +kernel
theorem dX9_init_646 : decode cX9_init 646 = .ok (.putfield 169, 3) := by decide +kernel
theorem dX9_init_649 : decode cX9_init 649 = .ok (.aload_n 0, 1) := by decide +kernel
theorem dX9_init_650 : decode cX9_init 650 = .ok (.bipush 64, 2) := by decide +kernel
theorem dX9_init_652 : decode cX9_init 652 = .ok (.newarray .int, 2) := by decide +kernel
theorem dX9_init_654 : decode cX9_init 654 = .ok (.putfield 172, 3) := by decide +kernel
theorem dX9_init_657 : decode cX9_init 657 = .ok (.aload_n 0, 1) := by decide +kernel
theorem dX9_init_658 : decode cX9_init 658 = .ok (.bipush 8, 2) := by decide +kernel
theorem dX9_init_660 : decode cX9_init 660 = .ok (.newarray .int, 2) := by decide +kernel
theorem dX9_init_662 : decode cX9_init 662 = .ok (.putfield 175, 3) := by decide +kernel
theorem dX9_init_665 : decode cX9_init 665 = .ok (.aload_n 0, 1) := by decide +kernel
theorem dX9_init_666 : decode cX9_init 666 = .ok (.bipush 32, 2) := by decide +kernel
theorem dX9_init_668 : decode cX9_init 668 = .ok (.newarray .int, 2) := by decide +kernel
theorem dX9_init_670 : decode cX9_init 670 = .ok (.putfield 178, 3) := by decide +kernel
theorem dX9_init_673 : decode cX9_init 673 = .ok (.aload_n 0, 1) := by decide +kernel
theorem dX9_init_674 : decode cX9_init 674 = .ok (.sipush 512, 3) := by decide +kernel
theorem dX9_init_677 : decode cX9_init 677 = .ok (.newarray .int, 2) := by decide +kernel
theorem dX9_init_679 : decode cX9_init 679 = .ok (.putfield 181, 3) := by decide +kernel
theorem dX9_init_682 : decode cX9_init 682 = .ok (.aload_n 0, 1) := by decide +kernel
theorem dX9_init_683 : decode cX9_init 683 = .ok (.bipush 16, 2) := by decide +kernel
theorem dX9_init_685 : decode cX9_init 685 = .ok (.newarray .int, 2) := by decide +kernel
theorem dX9_init_687 : decode cX9_init 687 = .ok (.putfield 184, 3) := by decide +kernel
theorem dX9_init_690 : decode cX9_init 690 = .ok (.aload_n 0, 1) := by decide +kernel
theorem dX9_init_691 : decode cX9_init 691 = .ok (.bipush 8, 2) := by decide +kernel
theorem dX9_init_693 : decode cX9_init 693 = .ok (.newarray .int, 2) := by decide +kernel
theorem dX9_init_695 : decode cX9_init 695 = .ok (.putfield 187, 3) := by decide +kernel
theorem dX9_init_698 : decode cX9_init 698 = .ok (.aload_n 0, 1) := by decide +kernel
theorem dX9_init_699 : decode cX9_init 699 = .ok (.bipush 8, 2) := by decide +kernel
theorem dX9_init_701 : decode cX9_init 701 = .ok (.newarray .boolean, 2) := by decide +kernel
theorem dX9_init_703 : decode cX9_init 703 = .ok (.putfield 190, 3) := by decide +kernel
theorem dX9_init_706 : decode cX9_init 706 = .ok (.aload_n 0, 1) := by decide +kernel
theorem dX9_init_707 : decode cX9_init 707 = .ok (.sipush 256, 3) := by decide +kernel
theorem dX9_init_710 : decode cX9_init 710 = .ok (.newarray .int, 2) := by decide +kernel
theorem dX9_init_712 : decode cX9_init 712 = .ok (.putfield 193, 3) := by decide +kernel
theorem dX9_init_715 : decode cX9_init 715 = .ok (.aload_n 0, 1) := by decide +kernel
theorem dX9_init_716 : decode cX9_init 716 = .ok (.sipush 256, 3) := by decide +kernel
theorem dX9_init_719 : decode cX9_init 719 = .ok (.newarray .int, 2) := by decide +kernel
theorem dX9_init_721 : decode cX9_init 721 = .ok (.putfield 196, 3) := by decide +kernel
theorem dX9_init_724 : decode cX9_init 724 = .ok (.aload_n 0, 1) := by decide +kernel
theorem dX9_init_725 : decode cX9_init 725 = .ok (.sipush 1024, 3) := by decide +kernel
theorem dX9_init_728 : decode cX9_init 728 = .ok (.newarray .int, 2) := by decide +kernel
theorem dX9_init_730 : decode cX9_init 730 = .ok (.putfield 199, 3) := by decide +kernel
theorem dX9_init_733 : decode cX9_init 733 = .ok (.aload_n 0, 1) := by decide +kernel
theorem dX9_init_734 : decode cX9_init 734 = .ok (.bipush 16, 2) := by decide +kernel
theorem dX9_init_736 : decode cX9_init 736 = .ok (.newarray .boolean, 2) := by decide +kernel
theorem dX9_init_738 : decode cX9_init 738 = .ok (.putfield 202, 3) := by decide +kernel
theorem dX9_init_741 : decode cX9_init 741 = .ok (.aload_n 0, 1) := by decide +kernel
theorem dX9_init_742 : decode cX9_init 742 = .ok (.bipush 16, 2) := by decide +kernel
theorem dX9_init_744 : decode cX9_init 744 = .ok (.newarray .int, 2) := by decide +kernel
theorem dX9_init_746 : decode cX9_init 746 = .ok (.putfield 205, 3) := by decide +kernel
theorem dX9_init_749 : decode cX9_init 749 = .ok (.aload_n 0, 1) := by decide +kernel
theorem dX9_init_750 : decode cX9_init 750 = .ok (.bipush 16, 2) := by decide +kernel
theorem dX9_init_752 : decode cX9_init 752 = .ok (.newarray .int, 2) := by decide +kernel
theorem dX9_init_754 : decode cX9_init 754 = .ok (.putfield 208, 3) := by decide +kernel
theorem dX9_init_757 : decode cX9_init 757 = .ok (.aload_n 0, 1) := by decide +kernel
theorem dX9_init_758 : decode cX9_init 758 = .ok (.bipush 32, 2) := by decide +kernel
theorem dX9_init_760 : decode cX9_init 760 = .ok (.newarray .int, 2) := by decide +kernel
theorem dX9_init_762 : decode cX9_init 762 = .ok (.putfield 211, 3) := by decide +kernel
theorem dX9_init_765 : decode cX9_init 765 = .ok (.aload_n 0, 1) := by decide +kernel
theorem dX9_init_766 : decode cX9_init 766 = .ok (.bipush 32, 2) := by decide +kernel
theorem dX9_init_768 : decode cX9_init 768 = .ok (.newarray .int, 2) := by decide +kernel
theorem dX9_init_770 : decode cX9_init 770 = .ok (.putfield 214, 3) := by decide +kernel
theorem dX9_init_773 : decode cX9_init 773 = .ok (.return_, 1) := by decide +kernel
theorem dX9_begins_0 : decode cX9_begins 0 = .ok (.aload_n 0, 1) := by decide +kernel
theorem dX9_begins_1 : decode cX9_begins 1 = .ok (.iload_n 1, 1) := by decide +kernel
theorem dX9_begins_2 : decode cX9_begins 2 = .ok (.putfield 217, 3) := by decide +kernel
theorem dX9_begins_5 : decode cX9_begins 5 = .ok (.aload_n 0, 1) := by decide +kernel
theorem dX9_begins_6 : decode cX9_begins 6 = .ok (.lload_n 2, 1) := by decide +kernel
theorem dX9_begins_7 : decode cX9_begins 7 = .ok (.putfield 221, 3) := by decide +kernel
theorem dX9_begins_10 : decode cX9_begins 10 = .ok (.aload_n 0, 1) := by decide +kernel
theorem dX9_begins_11 : decode cX9_begins 11 = .ok (.iconst 0, 1) := by decide +kernel
theorem dX9_begins_12 : decode cX9_begins 12 = .ok (.putfield 225, 3) := by decide +kernel
theorem dX9_begins_15 : decode cX9_begins 15 = .ok (.aload_n 0, 1) := by decide +kernel
theorem dX9_begins_16 : decode cX9_begins 16 = .ok (.iconst (-1), 1) := by decide +kernel
theorem dX9_begins_17 : decode cX9_begins 17 = .ok (.putfield 228, 3) := by decide +kernel
theorem dX9_begins_20 : decode cX9_begins 20 = .ok (.aload_n 0, 1) := by decide +kernel
theorem dX9_begins_21 : decode cX9_begins 21 = .ok (.iconst (-1), 1) := by decide +kernel
theorem dX9_begins_22 : decode cX9_begins 22 = .ok (.putfield 231, 3) := by decide +kernel
theorem dX9_begins_25 : decode cX9_begins 25 = .ok (.aload_n 0, 1) := by decide +kernel
theorem dX9_begins_26 : decode cX9_begins 26 = .ok (.lconst 0, 1) := by decide +kernel
theorem dX9_begins_27 : decode cX9_begins 27 = .ok (.putfield 234, 3) := by decide +kernel
theorem dX9_begins_30 : decode cX9_begins 30 = .ok (.aload_n 0, 1) := by decide +kernel
theorem dX9_begins_31 : decode cX9_begins 31 = .ok (.iconst 0, 1) := by decide +kernel
theorem dX9_begins_32 : decode cX9_begins 32 = .ok (.putfield 237, 3) := by decide +kernel
theorem dX9_begins_35 : decode cX9_begins 35 = .ok (.aload_n 0, 1) := by decide +kernel
theorem dX9_begins_36 : decode cX9_begins 36 = .ok (.iload_n 1, 1) := by decide +kernel
theorem dX9_begins_37 : decode cX9_begins 37 = .ok (.invokevirtual 240, 3) := by decide +kernel
theorem dX9_begins_40 : decode cX9_begins 40 = .ok (.lload_n 2, 1) := by decide +kernel
theorem dX9_begins_41 : decode cX9_begins 41 = .ok (.lconst 0, 1) := by decide +kernel
theorem dX9_begins_42 : decode cX9_begins 42 = .ok (.lcmp, 1) := by decide +kernel
theorem dX9_begins_43 : decode cX9_begins 43 = .ok (.ifCond .eq 8, 3) := by decide +kernel
theorem dX9_begins_46 : decode cX9_begins 46 = .ok (.aload_n 0, 1) := by decide +kernel
theorem dX9_begins_47 : decode cX9_begins 47 = .ok (.lload_n 2, 1) := by decide +kernel
theorem dX9_begins_48 : decode cX9_begins 48 = .ok (.invokevirtual 244, 3) := by decide +kernel
theorem dX9_begins_51 : decode cX9_begins 51 = .ok (.return_, 1) := by decide +kernel
theorem dX9_put_0 : decode cX9_put 0 = .ok (.aload_n 0, 1) := by decide +kernel
theorem dX9_put_1 : decode cX9_put 1 = .ok (.getfield 90, 3) := by decide +kernel
theorem dX9_put_4 : decode cX9_put 4 = .ok (.aload_n 0, 1) := by decide +kernel
theorem dX9_put_5 : decode cX9_put 5 = .ok (.getfield 237, 3) := by decide +kernel
theorem dX9_put_8 : decode cX9_put 8 = .ok (.iload_n 1, 1) := by decide +kernel
theorem dX9_put_9 : decode cX9_put 9 = .ok (.sipush 255, 3) := by decide +kernel
theorem dX9_put_12 : decode cX9_put 12 = .ok (.iand, 1) := by decide +kernel
theorem dX9_put_13 : decode cX9_put 13 = .ok (.iastore, 1) := by decide +kernel
theorem dX9_put_14 : decode cX9_put 14 = .ok (.aload_n 0, 1) := by decide +kernel
theorem dX9_put_15 : decode cX9_put 15 = .ok (.dup, 1) := by decide +kernel
theorem dX9_put_16 : decode cX9_put 16 = .ok (.getfield 237, 3) := by decide +kernel
theorem dX9_put_19 : decode cX9_put 19 = .ok (.iconst 1, 1) := by decide +kernel
theorem dX9_put_20 : decode cX9_put 20 = .ok (.iadd, 1) := by decide +kernel
theorem dX9_put_21 : decode cX9_put 21 = .ok (.putfield 237, 3) := by decide +kernel
theorem dX9_put_24 : decode cX9_put 24 = .ok (.return_, 1) := by decide +kernel
theorem dX9_putLong_0 : decode cX9_putLong 0 = .ok (.bipush 56, 2) := by decide +kernel
theorem dX9_putLong_2 : decode cX9_putLong 2 = .ok (.istore_n 3, 1) := by decide +kernel
theorem dX9_putLong_3 : decode cX9_putLong 3 = .ok (.iload_n 3, 1) := by decide +kernel
theorem dX9_putLong_4 : decode cX9_putLong 4 = .ok (.ifCond .lt 21, 3) := by decide +kernel
theorem dX9_putLong_7 : decode cX9_putLong 7 = .ok (.aload_n 0, 1) := by decide +kernel
theorem dX9_putLong_8 : decode cX9_putLong 8 = .ok (.lload_n 1, 1) := by decide +kernel
theorem dX9_putLong_9 : decode cX9_putLong 9 = .ok (.iload_n 3, 1) := by decide +kernel
theorem dX9_putLong_10 : decode cX9_putLong 10 = .ok (.lshr, 1) := by decide +kernel
theorem dX9_putLong_11 : decode cX9_putLong 11 = .ok (.ldc2_w 248, 3) := by decide +kernel
theorem dX9_putLong_14 : decode cX9_putLong 14 = .ok (.land, 1) := by decide +kernel
theorem dX9_putLong_15 : decode cX9_putLong 15 = .ok (.l2i, 1) := by decide +kernel
theorem dX9_putLong_16 : decode cX9_putLong 16 = .ok (.invokevirtual 240, 3) := by decide +kernel
theorem dX9_putLong_19 : decode cX9_putLong 19 = .ok (.iinc 3 (-8), 3) := by decide +kernel
theorem dX9_putLong_22 : decode cX9_putLong 22 = .ok (.goto (-19), 3) := by decide +kernel
theorem dX9_putLong_25 : decode cX9_putLong 25 = .ok (.return_, 1) := by decide +kernel
theorem dX9_putShort_0 : decode cX9_putShort 0 = .ok (.aload_n 0, 1) := by decide +kernel
theorem dX9_putShort_1 : decode cX9_putShort 1 = .ok (.iload_n 1, 1) := by decide +kernel
theorem dX9_putShort_2 : decode cX9_putShort 2 = .ok (.bipush 8, 2) := by decide +kernel
theorem dX9_putShort_4 : decode cX9_putShort 4 = .ok (.ishr, 1) := by decide +kernel
theorem dX9_putShort_5 : decode cX9_putShort 5 = .ok (.invokevirtual 240, 3) := by decide +kernel
theorem dX9_putShort_8 : decode cX9_putShort 8 = .ok (.aload_n 0, 1) := by decide +kernel
theorem dX9_putShort_9 : decode cX9_putShort 9 = .ok (.iload_n 1, 1) := by decide +kernel
theorem dX9_putShort_10 : decode cX9_putShort 10 = .ok (.invokevirtual 240, 3) := by decide +kernel
theorem dX9_putShort_13 : decode cX9_putShort 13 = .ok (.return_, 1) := by decide +kernel
theorem dX9_leg_0 : decode cX9_leg 0 = .ok (.aload_n 0, 1) := by decide +kernel
theorem dX9_leg_1 : decode cX9_leg 1 = .ok (.getfield 84, 3) := by decide +kernel
theorem dX9_leg_4 : decode cX9_leg 4 = .ok (.iload 4, 2) := by decide +kernel
theorem dX9_leg_6 : decode cX9_leg 6 = .ok (.iload_n 1, 1) := by decide +kernel
theorem dX9_leg_7 : decode cX9_leg 7 = .ok (.iastore, 1) := by decide +kernel
theorem dX9_leg_8 : decode cX9_leg 8 = .ok (.aload_n 0, 1) := by decide +kernel
theorem dX9_leg_9 : decode cX9_leg 9 = .ok (.getfield 87, 3) := by decide +kernel
theorem dX9_leg_12 : decode cX9_leg 12 = .ok (.iload 4, 2) := by decide +kernel
theorem dX9_leg_14 : decode cX9_leg 14 = .ok (.lload_n 2, 1) := by decide +kernel
theorem dX9_leg_15 : decode cX9_leg 15 = .ok (.lastore, 1) := by decide +kernel
theorem dX9_leg_16 : decode cX9_leg 16 = .ok (.aload_n 0, 1) := by decide +kernel
theorem dX9_leg_17 : decode cX9_leg 17 = .ok (.iload 4, 2) := by decide +kernel
theorem dX9_leg_19 : decode cX9_leg 19 = .ok (.iconst 1, 1) := by decide +kernel
theorem dX9_leg_20 : decode cX9_leg 20 = .ok (.iadd, 1) := by decide +kernel
theorem dX9_leg_21 : decode cX9_leg 21 = .ok (.putfield 225, 3) := by decide +kernel
theorem dX9_leg_24 : decode cX9_leg 24 = .ok (.return_, 1) := by decide +kernel
theorem dX9_byKey_0 : decode cX9_byKey 0 = .ok (.lload_n 2, 1) := by decide +kernel
theorem dX9_byKey_1 : decode cX9_byKey 1 = .ok (.lconst 0, 1) := by decide +kernel
theorem dX9_byKey_2 : decode cX9_byKey 2 = .ok (.lcmp, 1) := by decide +kernel
theorem dX9_byKey_3 : decode cX9_byKey 3 = .ok (.ifCond .ne 5, 3) := by decide +kernel
theorem dX9_byKey_6 : decode cX9_byKey 6 = .ok (.iconst (-1), 1) := by decide +kernel
theorem dX9_byKey_7 : decode cX9_byKey 7 = .ok (.ireturn, 1) := by decide +kernel
theorem dX9_byKey_8 : decode cX9_byKey 8 = .ok (.iconst 0, 1) := by decide +kernel
theorem dX9_byKey_9 : decode cX9_byKey 9 = .ok (.istore 4, 2) := by decide +kernel
theorem dX9_byKey_11 : decode cX9_byKey 11 = .ok (.iload 4, 2) := by decide +kernel
theorem dX9_byKey_13 : decode cX9_byKey 13 = .ok (.aload_n 0, 1) := by decide +kernel
theorem dX9_byKey_14 : decode cX9_byKey 14 = .ok (.getfield 13, 3) := by decide +kernel
theorem dX9_byKey_17 : decode cX9_byKey 17 = .ok (.iload_n 1, 1) := by decide +kernel
theorem dX9_byKey_18 : decode cX9_byKey 18 = .ok (.iaload, 1) := by decide +kernel
theorem dX9_byKey_19 : decode cX9_byKey 19 = .ok (.if_icmp .ge 30, 3) := by decide +kernel
theorem dX9_byKey_22 : decode cX9_byKey 22 = .ok (.aload_n 0, 1) := by decide +kernel
theorem dX9_byKey_23 : decode cX9_byKey 23 = .ok (.getfield 42, 3) := by decide +kernel
theorem dX9_byKey_26 : decode cX9_byKey 26 = .ok (.sipush 200, 3) := by decide +kernel
theorem dX9_byKey_29 : decode cX9_byKey 29 = .ok (.iload_n 1, 1) := by decide +kernel
theorem dX9_byKey_30 : decode cX9_byKey 30 = .ok (.imul, 1) := by decide +kernel
theorem dX9_byKey_31 : decode cX9_byKey 31 = .ok (.iload 4, 2) := by decide +kernel
theorem dX9_byKey_33 : decode cX9_byKey 33 = .ok (.iadd, 1) := by decide +kernel
theorem dX9_byKey_34 : decode cX9_byKey 34 = .ok (.laload, 1) := by decide +kernel
theorem dX9_byKey_35 : decode cX9_byKey 35 = .ok (.lload_n 2, 1) := by decide +kernel
theorem dX9_byKey_36 : decode cX9_byKey 36 = .ok (.lcmp, 1) := by decide +kernel
theorem dX9_byKey_37 : decode cX9_byKey 37 = .ok (.ifCond .ne 6, 3) := by decide +kernel
theorem dX9_byKey_40 : decode cX9_byKey 40 = .ok (.iload 4, 2) := by decide +kernel
theorem dX9_byKey_42 : decode cX9_byKey 42 = .ok (.ireturn, 1) := by decide +kernel
theorem dX9_byKey_43 : decode cX9_byKey 43 = .ok (.iinc 4 1, 3) := by decide +kernel
theorem dX9_byKey_46 : decode cX9_byKey 46 = .ok (.goto (-35), 3) := by decide +kernel
theorem dX9_byKey_49 : decode cX9_byKey 49 = .ok (.iconst (-1), 1) := by decide +kernel
theorem dX9_byKey_50 : decode cX9_byKey 50 = .ok (.ireturn, 1) := by decide +kernel
theorem dX9_isSame_0 : decode cX9_isSame 0 = .ok (.aload_n 0, 1) := by decide +kernel
theorem dX9_isSame_1 : decode cX9_isSame 1 = .ok (.getfield 75, 3) := by decide +kernel
theorem dX9_isSame_4 : decode cX9_isSame 4 = .ok (.iload_n 1, 1) := by decide +kernel
theorem dX9_isSame_5 : decode cX9_isSame 5 = .ok (.iaload, 1) := by decide +kernel
theorem dX9_isSame_6 : decode cX9_isSame 6 = .ok (.aload_n 0, 1) := by decide +kernel
theorem dX9_isSame_7 : decode cX9_isSame 7 = .ok (.getfield 237, 3) := by decide +kernel
theorem dX9_isSame_10 : decode cX9_isSame 10 = .ok (.if_icmp .ne 7, 3) := by decide +kernel
theorem dX9_isSame_13 : decode cX9_isSame 13 = .ok (.iconst 1, 1) := by decide +kernel
theorem dX9_isSame_14 : decode cX9_isSame 14 = .ok (.goto 4, 3) := by decide +kernel
theorem dX9_isSame_17 : decode cX9_isSame 17 = .ok (.iconst 0, 1) := by decide +kernel
theorem dX9_isSame_18 : decode cX9_isSame 18 = .ok (.istore_n 2, 1) := by decide +kernel
theorem dX9_isSame_19 : decode cX9_isSame 19 = .ok (.iconst 0, 1) := by decide +kernel
theorem dX9_isSame_20 : decode cX9_isSame 20 = .ok (.istore_n 3, 1) := by decide +kernel
theorem dX9_isSame_21 : decode cX9_isSame 21 = .ok (.iload_n 3, 1) := by decide +kernel
theorem dX9_isSame_22 : decode cX9_isSame 22 = .ok (.aload_n 0, 1) := by decide +kernel
theorem dX9_isSame_23 : decode cX9_isSame 23 = .ok (.getfield 237, 3) := by decide +kernel
theorem dX9_isSame_26 : decode cX9_isSame 26 = .ok (.if_icmp .ge 41, 3) := by decide +kernel
theorem dX9_isSame_29 : decode cX9_isSame 29 = .ok (.iload_n 2, 1) := by decide +kernel
theorem dX9_isSame_30 : decode cX9_isSame 30 = .ok (.ifCond .eq 37, 3) := by decide +kernel
theorem dX9_isSame_33 : decode cX9_isSame 33 = .ok (.aload_n 0, 1) := by decide +kernel
theorem dX9_isSame_34 : decode cX9_isSame 34 = .ok (.getfield 69, 3) := by decide +kernel
theorem dX9_isSame_37 : decode cX9_isSame 37 = .ok (.aload_n 0, 1) := by decide +kernel
theorem dX9_isSame_38 : decode cX9_isSame 38 = .ok (.getfield 72, 3) := by decide +kernel
theorem dX9_isSame_41 : decode cX9_isSame 41 = .ok (.iload_n 1, 1) := by decide +kernel
theorem dX9_isSame_42 : decode cX9_isSame 42 = .ok (.iaload, 1) := by decide +kernel
theorem dX9_isSame_43 : decode cX9_isSame 43 = .ok (.iload_n 3, 1) := by decide +kernel
theorem dX9_isSame_44 : decode cX9_isSame 44 = .ok (.iadd, 1) := by decide +kernel
theorem dX9_isSame_45 : decode cX9_isSame 45 = .ok (.iaload, 1) := by decide +kernel
theorem dX9_isSame_46 : decode cX9_isSame 46 = .ok (.aload_n 0, 1) := by decide +kernel
theorem dX9_isSame_47 : decode cX9_isSame 47 = .ok (.getfield 90, 3) := by decide +kernel
theorem dX9_isSame_50 : decode cX9_isSame 50 = .ok (.iload_n 3, 1) := by decide +kernel
theorem dX9_isSame_51 : decode cX9_isSame 51 = .ok (.iaload, 1) := by decide +kernel
theorem dX9_isSame_52 : decode cX9_isSame 52 = .ok (.if_icmp .ne 7, 3) := by decide +kernel
theorem dX9_isSame_55 : decode cX9_isSame 55 = .ok (.iconst 1, 1) := by decide +kernel
theorem dX9_isSame_56 : decode cX9_isSame 56 = .ok (.goto 4, 3) := by decide +kernel
theorem dX9_isSame_59 : decode cX9_isSame 59 = .ok (.iconst 0, 1) := by decide +kernel
theorem dX9_isSame_60 : decode cX9_isSame 60 = .ok (.istore_n 2, 1) := by decide +kernel
theorem dX9_isSame_61 : decode cX9_isSame 61 = .ok (.iinc 3 1, 3) := by decide +kernel
theorem dX9_isSame_64 : decode cX9_isSame 64 = .ok (.goto (-43), 3) := by decide +kernel
theorem dX9_isSame_67 : decode cX9_isSame 67 = .ok (.iload_n 2, 1) := by decide +kernel
theorem dX9_isSame_68 : decode cX9_isSame 68 = .ok (.ireturn, 1) := by decide +kernel
theorem dX9_isHold_0 : decode cX9_isHold 0 = .ok (.iload_n 2, 1) := by decide +kernel
theorem dX9_isHold_1 : decode cX9_isHold 1 = .ok (.ifCond .lt 48, 3) := by decide +kernel
theorem dX9_isHold_4 : decode cX9_isHold 4 = .ok (.iload_n 2, 1) := by decide +kernel
theorem dX9_isHold_5 : decode cX9_isHold 5 = .ok (.aload_n 0, 1) := by decide +kernel
theorem dX9_isHold_6 : decode cX9_isHold 6 = .ok (.getfield 13, 3) := by decide +kernel
theorem dX9_isHold_9 : decode cX9_isHold 9 = .ok (.iload_n 1, 1) := by decide +kernel
theorem dX9_isHold_10 : decode cX9_isHold 10 = .ok (.iaload, 1) := by decide +kernel
theorem dX9_isHold_11 : decode cX9_isHold 11 = .ok (.if_icmp .ge 38, 3) := by decide +kernel
theorem dX9_isHold_14 : decode cX9_isHold 14 = .ok (.aload_n 0, 1) := by decide +kernel
theorem dX9_isHold_15 : decode cX9_isHold 15 = .ok (.getfield 39, 3) := by decide +kernel
theorem dX9_isHold_18 : decode cX9_isHold 18 = .ok (.sipush 200, 3) := by decide +kernel
theorem dX9_isHold_21 : decode cX9_isHold 21 = .ok (.iload_n 1, 1) := by decide +kernel
theorem dX9_isHold_22 : decode cX9_isHold 22 = .ok (.imul, 1) := by decide +kernel
theorem dX9_isHold_23 : decode cX9_isHold 23 = .ok (.iload_n 2, 1) := by decide +kernel
theorem dX9_isHold_24 : decode cX9_isHold 24 = .ok (.iadd, 1) := by decide +kernel
theorem dX9_isHold_25 : decode cX9_isHold 25 = .ok (.iaload, 1) := by decide +kernel
theorem dX9_isHold_26 : decode cX9_isHold 26 = .ok (.iconst 3, 1) := by decide +kernel
theorem dX9_isHold_27 : decode cX9_isHold 27 = .ok (.if_icmp .ne 22, 3) := by decide +kernel
theorem dX9_isHold_30 : decode cX9_isHold 30 = .ok (.aload_n 0, 1) := by decide +kernel
theorem dX9_isHold_31 : decode cX9_isHold 31 = .ok (.getfield 60, 3) := by decide +kernel
theorem dX9_isHold_34 : decode cX9_isHold 34 = .ok (.sipush 200, 3) := by decide +kernel
theorem dX9_isHold_37 : decode cX9_isHold 37 = .ok (.iload_n 1, 1) := by decide +kernel
theorem dX9_isHold_38 : decode cX9_isHold 38 = .ok (.imul, 1) := by decide +kernel
theorem dX9_isHold_39 : decode cX9_isHold 39 = .ok (.iload_n 2, 1) := by decide +kernel
theorem dX9_isHold_40 : decode cX9_isHold 40 = .ok (.iadd, 1) := by decide +kernel
theorem dX9_isHold_41 : decode cX9_isHold 41 = .ok (.baload, 1) := by decide +kernel
theorem dX9_isHold_42 : decode cX9_isHold 42 = .ok (.ifCond .eq 7, 3) := by decide +kernel
theorem dX9_isHold_45 : decode cX9_isHold 45 = .ok (.iconst 1, 1) := by decide +kernel
theorem dX9_isHold_46 : decode cX9_isHold 46 = .ok (.goto 4, 3) := by decide +kernel
theorem dX9_isHold_49 : decode cX9_isHold 49 = .ok (.iconst 0, 1) := by decide +kernel
theorem dX9_isHold_50 : decode cX9_isHold 50 = .ok (.ireturn, 1) := by decide +kernel
theorem dX9_isAccount_0 : decode cX9_isAccount 0 = .ok (.iload_n 2, 1) := by decide +kernel
theorem dX9_isAccount_1 : decode cX9_isAccount 1 = .ok (.ifCond .lt 17, 3) := by decide +kernel
theorem dX9_isAccount_4 : decode cX9_isAccount 4 = .ok (.iload_n 2, 1) := by decide +kernel
theorem dX9_isAccount_5 : decode cX9_isAccount 5 = .ok (.aload_n 0, 1) := by decide +kernel
theorem dX9_isAccount_6 : decode cX9_isAccount 6 = .ok (.getfield 7, 3) := by decide +kernel
theorem dX9_isAccount_9 : decode cX9_isAccount 9 = .ok (.iload_n 1, 1) := by decide +kernel
theorem dX9_isAccount_10 : decode cX9_isAccount 10 = .ok (.iaload, 1) := by decide +kernel
theorem dX9_isAccount_11 : decode cX9_isAccount 11 = .ok (.if_icmp .ge 7, 3) := by decide +kernel
theorem dX9_isAccount_14 : decode cX9_isAccount 14 = .ok (.iconst 1, 1) := by decide +kernel
theorem dX9_isAccount_15 : decode cX9_isAccount 15 = .ok (.goto 4, 3) := by decide +kernel
theorem dX9_isAccount_18 : decode cX9_isAccount 18 = .ok (.iconst 0, 1) := by decide +kernel
theorem dX9_isAccount_19 : decode cX9_isAccount 19 = .ok (.ireturn, 1) := by decide +kernel
theorem dX9_isUnknown_0 : decode cX9_isUnknown 0 = .ok (.iconst 0, 1) := by decide +kernel
theorem dX9_isUnknown_1 : decode cX9_isUnknown 1 = .ok (.istore_n 2, 1) := by decide +kernel
theorem dX9_isUnknown_2 : decode cX9_isUnknown 2 = .ok (.sipush 200, 3) := by decide +kernel
theorem dX9_isUnknown_5 : decode cX9_isUnknown 5 = .ok (.iload_n 1, 1) := by decide +kernel
theorem dX9_isUnknown_6 : decode cX9_isUnknown 6 = .ok (.imul, 1) := by decide +kernel
theorem dX9_isUnknown_7 : decode cX9_isUnknown 7 = .ok (.aload_n 0, 1) := by decide +kernel
theorem dX9_isUnknown_8 : decode cX9_isUnknown 8 = .ok (.getfield 228, 3) := by decide +kernel
theorem dX9_isUnknown_11 : decode cX9_isUnknown 11 = .ok (.iadd, 1) := by decide +kernel
theorem dX9_isUnknown_12 : decode cX9_isUnknown 12 = .ok (.istore_n 3, 1) := by decide +kernel
theorem dX9_isUnknown_13 : decode cX9_isUnknown 13 = .ok (.aload_n 0, 1) := by decide +kernel
theorem dX9_isUnknown_14 : decode cX9_isUnknown 14 = .ok (.getfield 217, 3) := by decide +kernel
theorem dX9_isUnknown_17 : decode cX9_isUnknown 17 = .ok (.tableswitch 264 2 6 #[35, 80, 98, 116, 187], 35) := by decide +kernel
theorem dX9_isUnknown_52 : decode cX9_isUnknown 52 = .ok (.iconst 0, 1) := by decide +kernel
theorem dX9_isUnknown_53 : decode cX9_isUnknown 53 = .ok (.istore 4, 2) := by decide +kernel
theorem dX9_isUnknown_55 : decode cX9_isUnknown 55 = .ok (.iload 4, 2) := by decide +kernel
theorem dX9_isUnknown_57 : decode cX9_isUnknown 57 = .ok (.aload_n 0, 1) := by decide +kernel
theorem dX9_isUnknown_58 : decode cX9_isUnknown 58 = .ok (.getfield 225, 3) := by decide +kernel
theorem dX9_isUnknown_61 : decode cX9_isUnknown 61 = .ok (.if_icmp .ge 34, 3) := by decide +kernel
theorem dX9_isUnknown_64 : decode cX9_isUnknown 64 = .ok (.iload_n 2, 1) := by decide +kernel
theorem dX9_isUnknown_65 : decode cX9_isUnknown 65 = .ok (.ifCond .ne 18, 3) := by decide +kernel
theorem dX9_isUnknown_68 : decode cX9_isUnknown 68 = .ok (.aload_n 0, 1) := by decide +kernel
theorem dX9_isUnknown_69 : decode cX9_isUnknown 69 = .ok (.iload_n 1, 1) := by decide +kernel
theorem dX9_isUnknown_70 : decode cX9_isUnknown 70 = .ok (.aload_n 0, 1) := by decide +kernel
theorem dX9_isUnknown_71 : decode cX9_isUnknown 71 = .ok (.getfield 84, 3) := by decide +kernel
theorem dX9_isUnknown_74 : decode cX9_isUnknown 74 = .ok (.iload 4, 2) := by decide +kernel
theorem dX9_isUnknown_76 : decode cX9_isUnknown 76 = .ok (.iaload, 1) := by decide +kernel
theorem dX9_isUnknown_77 : decode cX9_isUnknown 77 = .ok (.invokevirtual 250, 3) := by decide +kernel
theorem dX9_isUnknown_80 : decode cX9_isUnknown 80 = .ok (.ifCond .ne 7, 3) := by decide +kernel
theorem dX9_isUnknown_83 : decode cX9_isUnknown 83 = .ok (.iconst 1, 1) := by decide +kernel
theorem dX9_isUnknown_84 : decode cX9_isUnknown 84 = .ok (.goto 4, 3) := by decide +kernel
theorem dX9_isUnknown_87 : decode cX9_isUnknown 87 = .ok (.iconst 0, 1) := by decide +kernel
theorem dX9_isUnknown_88 : decode cX9_isUnknown 88 = .ok (.istore_n 2, 1) := by decide +kernel
theorem dX9_isUnknown_89 : decode cX9_isUnknown 89 = .ok (.iinc 4 1, 3) := by decide +kernel
theorem dX9_isUnknown_92 : decode cX9_isUnknown 92 = .ok (.goto (-37), 3) := by decide +kernel
theorem dX9_isUnknown_95 : decode cX9_isUnknown 95 = .ok (.iload_n 2, 1) := by decide +kernel
theorem dX9_isUnknown_96 : decode cX9_isUnknown 96 = .ok (.ireturn, 1) := by decide +kernel
theorem dX9_isUnknown_97 : decode cX9_isUnknown 97 = .ok (.aload_n 0, 1) := by decide +kernel
theorem dX9_isUnknown_98 : decode cX9_isUnknown 98 = .ok (.iload_n 1, 1) := by decide +kernel
theorem dX9_isUnknown_99 : decode cX9_isUnknown 99 = .ok (.aload_n 0, 1) := by decide +kernel
theorem dX9_isUnknown_100 : decode cX9_isUnknown 100 = .ok (.getfield 231, 3) := by decide +kernel
theorem dX9_isUnknown_103 : decode cX9_isUnknown 103 = .ok (.invokevirtual 250, 3) := by decide +kernel
theorem dX9_isUnknown_106 : decode cX9_isUnknown 106 = .ok (.ifCond .ne 7, 3) := by decide +kernel
theorem dX9_isUnknown_109 : decode cX9_isUnknown 109 = .ok (.iconst 1, 1) := by decide +kernel
theorem dX9_isUnknown_110 : decode cX9_isUnknown 110 = .ok (.goto 4, 3) := by decide +kernel
theorem dX9_isUnknown_113 : decode cX9_isUnknown 113 = .ok (.iconst 0, 1) := by decide +kernel
theorem dX9_isUnknown_114 : decode cX9_isUnknown 114 = .ok (.ireturn, 1) := by decide +kernel
theorem dX9_isUnknown_115 : decode cX9_isUnknown 115 = .ok (.aload_n 0, 1) := by decide +kernel
theorem dX9_isUnknown_116 : decode cX9_isUnknown 116 = .ok (.iload_n 1, 1) := by decide +kernel
theorem dX9_isUnknown_117 : decode cX9_isUnknown 117 = .ok (.aload_n 0, 1) := by decide +kernel
theorem dX9_isUnknown_118 : decode cX9_isUnknown 118 = .ok (.getfield 228, 3) := by decide +kernel
theorem dX9_isUnknown_121 : decode cX9_isUnknown 121 = .ok (.invokevirtual 254, 3) := by decide +kernel
theorem dX9_isUnknown_124 : decode cX9_isUnknown 124 = .ok (.ifCond .ne 7, 3) := by decide +kernel
theorem dX9_isUnknown_127 : decode cX9_isUnknown 127 = .ok (.iconst 1, 1) := by decide +kernel
theorem dX9_isUnknown_128 : decode cX9_isUnknown 128 = .ok (.goto 4, 3) := by decide +kernel
theorem dX9_isUnknown_131 : decode cX9_isUnknown 131 = .ok (.iconst 0, 1) := by decide +kernel
theorem dX9_isUnknown_132 : decode cX9_isUnknown 132 = .ok (.ireturn, 1) := by decide +kernel
theorem dX9_isUnknown_133 : decode cX9_isUnknown 133 = .ok (.aload_n 0, 1) := by decide +kernel
theorem dX9_isUnknown_134 : decode cX9_isUnknown 134 = .ok (.iload_n 1, 1) := by decide +kernel
theorem dX9_isUnknown_135 : decode cX9_isUnknown 135 = .ok (.aload_n 0, 1) := by decide +kernel
theorem dX9_isUnknown_136 : decode cX9_isUnknown 136 = .ok (.getfield 228, 3) := by decide +kernel
theorem dX9_isUnknown_139 : decode cX9_isUnknown 139 = .ok (.invokevirtual 254, 3) := by decide +kernel
theorem dX9_isUnknown_142 : decode cX9_isUnknown 142 = .ok (.ifCond .eq 29, 3) := by decide +kernel
theorem dX9_isUnknown_145 : decode cX9_isUnknown 145 = .ok (.aload_n 0, 1) := by decide +kernel
theorem dX9_isUnknown_146 : decode cX9_isUnknown 146 = .ok (.iload_n 1, 1) := by decide +kernel
theorem dX9_isUnknown_147 : decode cX9_isUnknown 147 = .ok (.aload_n 0, 1) := by decide +kernel
theorem dX9_isUnknown_148 : decode cX9_isUnknown 148 = .ok (.getfield 231, 3) := by decide +kernel
theorem dX9_isUnknown_151 : decode cX9_isUnknown 151 = .ok (.invokevirtual 250, 3) := by decide +kernel
theorem dX9_isUnknown_154 : decode cX9_isUnknown 154 = .ok (.ifCond .eq 17, 3) := by decide +kernel
theorem dX9_isUnknown_157 : decode cX9_isUnknown 157 = .ok (.aload_n 0, 1) := by decide +kernel
theorem dX9_isUnknown_158 : decode cX9_isUnknown 158 = .ok (.getfield 234, 3) := by decide +kernel
theorem dX9_isUnknown_161 : decode cX9_isUnknown 161 = .ok (.aload_n 0, 1) := by decide +kernel
theorem dX9_isUnknown_162 : decode cX9_isUnknown 162 = .ok (.getfield 57, 3) := by decide +kernel
theorem dX9_isUnknown_165 : decode cX9_isUnknown 165 = .ok (.iload_n 3, 1) := by decide +kernel
theorem dX9_isUnknown_166 : decode cX9_isUnknown 166 = .ok (.laload, 1) := by decide +kernel
theorem dX9_isUnknown_167 : decode cX9_isUnknown 167 = .ok (.lcmp, 1) := by decide +kernel
theorem dX9_isUnknown_168 : decode cX9_isUnknown 168 = .ok (.ifCond .le 5, 3) := by decide +kernel
theorem dX9_isUnknown_171 : decode cX9_isUnknown 171 = .ok (.iconst 1, 1) := by decide +kernel
theorem dX9_isUnknown_172 : decode cX9_isUnknown 172 = .ok (.ireturn, 1) := by decide +kernel
theorem dX9_isUnknown_173 : decode cX9_isUnknown 173 = .ok (.aload_n 0, 1) := by decide +kernel
theorem dX9_isUnknown_174 : decode cX9_isUnknown 174 = .ok (.aload_n 0, 1) := by decide +kernel
theorem dX9_isUnknown_175 : decode cX9_isUnknown 175 = .ok (.getfield 54, 3) := by decide +kernel
theorem dX9_isUnknown_178 : decode cX9_isUnknown 178 = .ok (.iload_n 3, 1) := by decide +kernel
theorem dX9_isUnknown_179 : decode cX9_isUnknown 179 = .ok (.iaload, 1) := by decide +kernel
theorem dX9_isUnknown_180 : decode cX9_isUnknown 180 = .ok (.aload_n 0, 1) := by decide +kernel
theorem dX9_isUnknown_181 : decode cX9_isUnknown 181 = .ok (.getfield 234, 3) := by decide +kernel
theorem dX9_isUnknown_184 : decode cX9_isUnknown 184 = .ok (.lneg, 1) := by decide +kernel
theorem dX9_isUnknown_185 : decode cX9_isUnknown 185 = .ok (.iconst 0, 1) := by decide +kernel
theorem dX9_isUnknown_186 : decode cX9_isUnknown 186 = .ok (.invokevirtual 257, 3) := by decide +kernel
theorem dX9_isUnknown_189 : decode cX9_isUnknown 189 = .ok (.aload_n 0, 1) := by decide +kernel
theorem dX9_isUnknown_190 : decode cX9_isUnknown 190 = .ok (.aload_n 0, 1) := by decide +kernel
theorem dX9_isUnknown_191 : decode cX9_isUnknown 191 = .ok (.getfield 231, 3) := by decide +kernel
theorem dX9_isUnknown_194 : decode cX9_isUnknown 194 = .ok (.aload_n 0, 1) := by decide +kernel
theorem dX9_isUnknown_195 : decode cX9_isUnknown 195 = .ok (.getfield 234, 3) := by decide +kernel
theorem dX9_isUnknown_198 : decode cX9_isUnknown 198 = .ok (.iconst 1, 1) := by decide +kernel
theorem dX9_isUnknown_199 : decode cX9_isUnknown 199 = .ok (.invokevirtual 257, 3) := by decide +kernel
theorem dX9_isUnknown_202 : decode cX9_isUnknown 202 = .ok (.iconst 0, 1) := by decide +kernel
theorem dX9_isUnknown_203 : decode cX9_isUnknown 203 = .ok (.ireturn, 1) := by decide +kernel
theorem dX9_isUnknown_204 : decode cX9_isUnknown 204 = .ok (.aload_n 0, 1) := by decide +kernel
theorem dX9_isUnknown_205 : decode cX9_isUnknown 205 = .ok (.getfield 228, 3) := by decide +kernel
theorem dX9_isUnknown_208 : decode cX9_isUnknown 208 = .ok (.aload_n 0, 1) := by decide +kernel
theorem dX9_isUnknown_209 : decode cX9_isUnknown 209 = .ok (.getfield 13, 3) := by decide +kernel
theorem dX9_isUnknown_212 : decode cX9_isUnknown 212 = .ok (.iload_n 1, 1) := by decide +kernel
theorem dX9_isUnknown_213 : decode cX9_isUnknown 213 = .ok (.iaload, 1) := by decide +kernel
theorem dX9_isUnknown_214 : decode cX9_isUnknown 214 = .ok (.if_icmp .ge 12, 3) := by decide +kernel
theorem dX9_isUnknown_217 : decode cX9_isUnknown 217 = .ok (.aload_n 0, 1) := by decide +kernel
theorem dX9_isUnknown_218 : decode cX9_isUnknown 218 = .ok (.getfield 45, 3) := by decide +kernel
theorem dX9_isUnknown_221 : decode cX9_isUnknown 221 = .ok (.iload_n 3, 1) := by decide +kernel
theorem dX9_isUnknown_222 : decode cX9_isUnknown 222 = .ok (.iaload, 1) := by decide +kernel
theorem dX9_isUnknown_223 : decode cX9_isUnknown 223 = .ok (.ifCond .ne 5, 3) := by decide +kernel
theorem dX9_isUnknown_226 : decode cX9_isUnknown 226 = .ok (.iconst 1, 1) := by decide +kernel
theorem dX9_isUnknown_227 : decode cX9_isUnknown 227 = .ok (.ireturn, 1) := by decide +kernel
theorem dX9_isUnknown_228 : decode cX9_isUnknown 228 = .ok (.iconst 0, 1) := by decide +kernel
theorem dX9_isUnknown_229 : decode cX9_isUnknown 229 = .ok (.istore 4, 2) := by decide +kernel
theorem dX9_isUnknown_231 : decode cX9_isUnknown 231 = .ok (.iload 4, 2) := by decide +kernel
theorem dX9_isUnknown_233 : decode cX9_isUnknown 233 = .ok (.aload_n 0, 1) := by decide +kernel
theorem dX9_isUnknown_234 : decode cX9_isUnknown 234 = .ok (.getfield 45, 3) := by decide +kernel
theorem dX9_isUnknown_237 : decode cX9_isUnknown 237 = .ok (.iload_n 3, 1) := by decide +kernel
theorem dX9_isUnknown_238 : decode cX9_isUnknown 238 = .ok (.iaload, 1) := by decide +kernel
theorem dX9_isUnknown_239 : decode cX9_isUnknown 239 = .ok (.if_icmp .ge 40, 3) := by decide +kernel
theorem dX9_isUnknown_242 : decode cX9_isUnknown 242 = .ok (.aload_n 0, 1) := by decide +kernel
theorem dX9_isUnknown_243 : decode cX9_isUnknown 243 = .ok (.aload_n 0, 1) := by decide +kernel
theorem dX9_isUnknown_244 : decode cX9_isUnknown 244 = .ok (.getfield 48, 3) := by decide +kernel
theorem dX9_isUnknown_247 : decode cX9_isUnknown 247 = .ok (.bipush 8, 2) := by decide +kernel
theorem dX9_isUnknown_249 : decode cX9_isUnknown 249 = .ok (.iload_n 3, 1) := by decide +kernel
theorem dX9_isUnknown_250 : decode cX9_isUnknown 250 = .ok (.imul, 1) := by decide +kernel
theorem dX9_isUnknown_251 : decode cX9_isUnknown 251 = .ok (.iload 4, 2) := by decide +kernel
theorem dX9_isUnknown_253 : decode cX9_isUnknown 253 = .ok (.iadd, 1) := by decide +kernel
theorem dX9_isUnknown_254 : decode cX9_isUnknown 254 = .ok (.iaload, 1) := by decide +kernel
theorem dX9_isUnknown_255 : decode cX9_isUnknown 255 = .ok (.aload_n 0, 1) := by decide +kernel
theorem dX9_isUnknown_256 : decode cX9_isUnknown 256 = .ok (.getfield 51, 3) := by decide +kernel
theorem dX9_isUnknown_259 : decode cX9_isUnknown 259 = .ok (.bipush 8, 2) := by decide +kernel
theorem dX9_isUnknown_261 : decode cX9_isUnknown 261 = .ok (.iload_n 3, 1) := by decide +kernel
theorem dX9_isUnknown_262 : decode cX9_isUnknown 262 = .ok (.imul, 1) := by decide +kernel
theorem dX9_isUnknown_263 : decode cX9_isUnknown 263 = .ok (.iload 4, 2) := by decide +kernel
theorem dX9_isUnknown_265 : decode cX9_isUnknown 265 = .ok (.iadd, 1) := by decide +kernel
theorem dX9_isUnknown_266 : decode cX9_isUnknown 266 = .ok (.laload, 1) := by decide +kernel
theorem dX9_isUnknown_267 : decode cX9_isUnknown 267 = .ok (.lneg, 1) := by decide +kernel
theorem dX9_isUnknown_268 : decode cX9_isUnknown 268 = .ok (.iload 4, 2) := by decide +kernel
theorem dX9_isUnknown_270 : decode cX9_isUnknown 270 = .ok (.invokevirtual 257, 3) := by decide +kernel
theorem dX9_isUnknown_273 : decode cX9_isUnknown 273 = .ok (.iinc 4 1, 3) := by decide +kernel
theorem dX9_isUnknown_276 : decode cX9_isUnknown 276 = .ok (.goto (-45), 3) := by decide +kernel
theorem dX9_isUnknown_279 : decode cX9_isUnknown 279 = .ok (.iconst 0, 1) := by decide +kernel
theorem dX9_isUnknown_280 : decode cX9_isUnknown 280 = .ok (.ireturn, 1) := by decide +kernel
theorem dX9_isUnknown_281 : decode cX9_isUnknown 281 = .ok (.iconst 0, 1) := by decide +kernel
theorem dX9_isUnknown_282 : decode cX9_isUnknown 282 = .ok (.ireturn, 1) := by decide +kernel
theorem dX9_isUneven_0 : decode cX9_isUneven 0 = .ok (.aload_n 0, 1) := by decide +kernel
theorem dX9_isUneven_1 : decode cX9_isUneven 1 = .ok (.getfield 217, 3) := by decide +kernel
theorem dX9_isUneven_4 : decode cX9_isUneven 4 = .ok (.iconst 2, 1) := by decide +kernel
theorem dX9_isUneven_5 : decode cX9_isUneven 5 = .ok (.if_icmp .eq 5, 3) := by decide +kernel
theorem dX9_isUneven_8 : decode cX9_isUneven 8 = .ok (.iconst 0, 1) := by decide +kernel
theorem dX9_isUneven_9 : decode cX9_isUneven 9 = .ok (.ireturn, 1) := by decide +kernel
theorem dX9_isUneven_10 : decode cX9_isUneven 10 = .ok (.lconst 0, 1) := by decide +kernel
theorem dX9_isUneven_11 : decode cX9_isUneven 11 = .ok (.lstore_n 1, 1) := by decide +kernel
theorem dX9_isUneven_12 : decode cX9_isUneven 12 = .ok (.lconst 0, 1) := by decide +kernel
theorem dX9_isUneven_13 : decode cX9_isUneven 13 = .ok (.lstore_n 3, 1) := by decide +kernel
theorem dX9_isUneven_14 : decode cX9_isUneven 14 = .ok (.iconst 0, 1) := by decide +kernel
theorem dX9_isUneven_15 : decode cX9_isUneven 15 = .ok (.istore 5, 2) := by decide +kernel
theorem dX9_isUneven_17 : decode cX9_isUneven 17 = .ok (.iload 5, 2) := by decide +kernel
theorem dX9_isUneven_19 : decode cX9_isUneven 19 = .ok (.aload_n 0, 1) := by decide +kernel
theorem dX9_isUneven_20 : decode cX9_isUneven 20 = .ok (.getfield 225, 3) := by decide +kernel
theorem dX9_isUneven_23 : decode cX9_isUneven 23 = .ok (.if_icmp .ge 36, 3) := by decide +kernel
theorem dX9_isUneven_26 : decode cX9_isUneven 26 = .ok (.lload_n 1, 1) := by decide +kernel
theorem dX9_isUneven_27 : decode cX9_isUneven 27 = .ok (.aload_n 0, 1) := by decide +kernel
theorem dX9_isUneven_28 : decode cX9_isUneven 28 = .ok (.getfield 87, 3) := by decide +kernel
theorem dX9_isUneven_31 : decode cX9_isUneven 31 = .ok (.iload 5, 2) := by decide +kernel
theorem dX9_isUneven_33 : decode cX9_isUneven 33 = .ok (.laload, 1) := by decide +kernel
theorem dX9_isUneven_34 : decode cX9_isUneven 34 = .ok (.bipush 32, 2) := by decide +kernel
theorem dX9_isUneven_36 : decode cX9_isUneven 36 = .ok (.lshr, 1) := by decide +kernel
theorem dX9_isUneven_37 : decode cX9_isUneven 37 = .ok (.ladd, 1) := by decide +kernel
theorem dX9_isUneven_38 : decode cX9_isUneven 38 = .ok (.lstore_n 1, 1) := by decide +kernel
theorem dX9_isUneven_39 : decode cX9_isUneven 39 = .ok (.lload_n 3, 1) := by decide +kernel
theorem dX9_isUneven_40 : decode cX9_isUneven 40 = .ok (.aload_n 0, 1) := by decide +kernel
theorem dX9_isUneven_41 : decode cX9_isUneven 41 = .ok (.getfield 87, 3) := by decide +kernel
theorem dX9_isUneven_44 : decode cX9_isUneven 44 = .ok (.iload 5, 2) := by decide +kernel
theorem dX9_isUneven_46 : decode cX9_isUneven 46 = .ok (.laload, 1) := by decide +kernel
theorem dX9_isUneven_47 : decode cX9_isUneven 47 = .ok (.ldc2_w 261, 3) := by decide +kernel
theorem dX9_isUneven_50 : decode cX9_isUneven 50 = .ok (.land, 1) := by decide +kernel
theorem dX9_isUneven_51 : decode cX9_isUneven 51 = .ok (.ladd, 1) := by decide +kernel
theorem dX9_isUneven_52 : decode cX9_isUneven 52 = .ok (.lstore_n 3, 1) := by decide +kernel
theorem dX9_isUneven_53 : decode cX9_isUneven 53 = .ok (.iinc 5 1, 3) := by decide +kernel
theorem dX9_isUneven_56 : decode cX9_isUneven 56 = .ok (.goto (-39), 3) := by decide +kernel
theorem dX9_isUneven_59 : decode cX9_isUneven 59 = .ok (.lload_n 1, 1) := by decide +kernel
theorem dX9_isUneven_60 : decode cX9_isUneven 60 = .ok (.lload_n 3, 1) := by decide +kernel
theorem dX9_isUneven_61 : decode cX9_isUneven 61 = .ok (.bipush 32, 2) := by decide +kernel
theorem dX9_isUneven_63 : decode cX9_isUneven 63 = .ok (.lshr, 1) := by decide +kernel
theorem dX9_isUneven_64 : decode cX9_isUneven 64 = .ok (.ladd, 1) := by decide +kernel
theorem dX9_isUneven_65 : decode cX9_isUneven 65 = .ok (.lconst 0, 1) := by decide +kernel
theorem dX9_isUneven_66 : decode cX9_isUneven 66 = .ok (.lcmp, 1) := by decide +kernel
theorem dX9_isUneven_67 : decode cX9_isUneven 67 = .ok (.ifCond .ne 13, 3) := by decide +kernel
theorem dX9_isUneven_70 : decode cX9_isUneven 70 = .ok (.lload_n 3, 1) := by decide +kernel
theorem dX9_isUneven_71 : decode cX9_isUneven 71 = .ok (.ldc2_w 261, 3) := by decide +kernel
theorem dX9_isUneven_74 : decode cX9_isUneven 74 = .ok (.land, 1) := by decide +kernel
theorem dX9_isUneven_75 : decode cX9_isUneven 75 = .ok (.lconst 0, 1) := by decide +kernel
theorem dX9_isUneven_76 : decode cX9_isUneven 76 = .ok (.lcmp, 1) := by decide +kernel
theorem dX9_isUneven_77 : decode cX9_isUneven 77 = .ok (.ifCond .eq 7, 3) := by decide +kernel
theorem dX9_isUneven_80 : decode cX9_isUneven 80 = .ok (.iconst 1, 1) := by decide +kernel
theorem dX9_isUneven_81 : decode cX9_isUneven 81 = .ok (.goto 4, 3) := by decide +kernel
theorem dX9_isUneven_84 : decode cX9_isUneven 84 = .ok (.iconst 0, 1) := by decide +kernel
theorem dX9_isUneven_85 : decode cX9_isUneven 85 = .ok (.ireturn, 1) := by decide +kernel
theorem dX9_isOver_0 : decode cX9_isOver 0 = .ok (.iconst 0, 1) := by decide +kernel
theorem dX9_isOver_1 : decode cX9_isOver 1 = .ok (.istore_n 2, 1) := by decide +kernel
theorem dX9_isOver_2 : decode cX9_isOver 2 = .ok (.iload_n 2, 1) := by decide +kernel
theorem dX9_isOver_3 : decode cX9_isOver 3 = .ok (.aload_n 0, 1) := by decide +kernel
theorem dX9_isOver_4 : decode cX9_isOver 4 = .ok (.getfield 7, 3) := by decide +kernel
theorem dX9_isOver_7 : decode cX9_isOver 7 = .ok (.iload_n 1, 1) := by decide +kernel
theorem dX9_isOver_8 : decode cX9_isOver 8 = .ok (.iaload, 1) := by decide +kernel
theorem dX9_isOver_9 : decode cX9_isOver 9 = .ok (.if_icmp .ge 26, 3) := by decide +kernel
theorem dX9_isOver_12 : decode cX9_isOver 12 = .ok (.aload_n 0, 1) := by decide +kernel
theorem dX9_isOver_13 : decode cX9_isOver 13 = .ok (.getfield 93, 3) := by decide +kernel
theorem dX9_isOver_16 : decode cX9_isOver 16 = .ok (.iload_n 2, 1) := by decide +kernel
theorem dX9_isOver_17 : decode cX9_isOver 17 = .ok (.aload_n 0, 1) := by decide +kernel
theorem dX9_isOver_18 : decode cX9_isOver 18 = .ok (.getfield 30, 3) := by decide +kernel
theorem dX9_isOver_21 : decode cX9_isOver 21 = .ok (.bipush 40, 2) := by decide +kernel
theorem dX9_isOver_23 : decode cX9_isOver 23 = .ok (.iload_n 1, 1) := by decide +kernel
theorem dX9_isOver_24 : decode cX9_isOver 24 = .ok (.imul, 1) := by decide +kernel
theorem dX9_isOver_25 : decode cX9_isOver 25 = .ok (.iload_n 2, 1) := by decide +kernel
theorem dX9_isOver_26 : decode cX9_isOver 26 = .ok (.iadd, 1) := by decide +kernel
theorem dX9_isOver_27 : decode cX9_isOver 27 = .ok (.laload, 1) := by decide +kernel
theorem dX9_isOver_28 : decode cX9_isOver 28 = .ok (.lastore, 1) := by decide +kernel
theorem dX9_isOver_29 : decode cX9_isOver 29 = .ok (.iinc 2 1, 3) := by decide +kernel
theorem dX9_isOver_32 : decode cX9_isOver 32 = .ok (.goto (-30), 3) := by decide +kernel
theorem dX9_isOver_35 : decode cX9_isOver 35 = .ok (.iconst 0, 1) := by decide +kernel
theorem dX9_isOver_36 : decode cX9_isOver 36 = .ok (.istore_n 2, 1) := by decide +kernel
theorem dX9_isOver_37 : decode cX9_isOver 37 = .ok (.iload_n 2, 1) := by decide +kernel
theorem dX9_isOver_38 : decode cX9_isOver 38 = .ok (.aload_n 0, 1) := by decide +kernel
theorem dX9_isOver_39 : decode cX9_isOver 39 = .ok (.getfield 225, 3) := by decide +kernel
theorem dX9_isOver_42 : decode cX9_isOver 42 = .ok (.if_icmp .ge 65, 3) := by decide +kernel
theorem dX9_isOver_45 : decode cX9_isOver 45 = .ok (.aload_n 0, 1) := by decide +kernel
theorem dX9_isOver_46 : decode cX9_isOver 46 = .ok (.getfield 84, 3) := by decide +kernel
theorem dX9_isOver_49 : decode cX9_isOver 49 = .ok (.iload_n 2, 1) := by decide +kernel
theorem dX9_isOver_50 : decode cX9_isOver 50 = .ok (.iaload, 1) := by decide +kernel
theorem dX9_isOver_51 : decode cX9_isOver 51 = .ok (.istore_n 3, 1) := by decide +kernel
theorem dX9_isOver_52 : decode cX9_isOver 52 = .ok (.aload_n 0, 1) := by decide +kernel
theorem dX9_isOver_53 : decode cX9_isOver 53 = .ok (.getfield 93, 3) := by decide +kernel
theorem dX9_isOver_56 : decode cX9_isOver 56 = .ok (.iload_n 3, 1) := by decide +kernel
theorem dX9_isOver_57 : decode cX9_isOver 57 = .ok (.laload, 1) := by decide +kernel
theorem dX9_isOver_58 : decode cX9_isOver 58 = .ok (.lstore 4, 2) := by decide +kernel
theorem dX9_isOver_60 : decode cX9_isOver 60 = .ok (.lload 4, 2) := by decide +kernel
theorem dX9_isOver_62 : decode cX9_isOver 62 = .ok (.aload_n 0, 1) := by decide +kernel
theorem dX9_isOver_63 : decode cX9_isOver 63 = .ok (.getfield 87, 3) := by decide +kernel
theorem dX9_isOver_66 : decode cX9_isOver 66 = .ok (.iload_n 2, 1) := by decide +kernel
theorem dX9_isOver_67 : decode cX9_isOver 67 = .ok (.laload, 1) := by decide +kernel
theorem dX9_isOver_68 : decode cX9_isOver 68 = .ok (.ladd, 1) := by decide +kernel
theorem dX9_isOver_69 : decode cX9_isOver 69 = .ok (.lstore 6, 2) := by decide +kernel
theorem dX9_isOver_71 : decode cX9_isOver 71 = .ok (.lload 4, 2) := by decide +kernel
theorem dX9_isOver_73 : decode cX9_isOver 73 = .ok (.lload 6, 2) := by decide +kernel
theorem dX9_isOver_75 : decode cX9_isOver 75 = .ok (.lxor, 1) := by decide +kernel
theorem dX9_isOver_76 : decode cX9_isOver 76 = .ok (.aload_n 0, 1) := by decide +kernel
theorem dX9_isOver_77 : decode cX9_isOver 77 = .ok (.getfield 87, 3) := by decide +kernel
theorem dX9_isOver_80 : decode cX9_isOver 80 = .ok (.iload_n 2, 1) := by decide +kernel
theorem dX9_isOver_81 : decode cX9_isOver 81 = .ok (.laload, 1) := by decide +kernel
theorem dX9_isOver_82 : decode cX9_isOver 82 = .ok (.lload 6, 2) := by decide +kernel
theorem dX9_isOver_84 : decode cX9_isOver 84 = .ok (.lxor, 1) := by decide +kernel
theorem dX9_isOver_85 : decode cX9_isOver 85 = .ok (.land, 1) := by decide +kernel
theorem dX9_isOver_86 : decode cX9_isOver 86 = .ok (.lconst 0, 1) := by decide +kernel
theorem dX9_isOver_87 : decode cX9_isOver 87 = .ok (.lcmp, 1) := by decide +kernel
theorem dX9_isOver_88 : decode cX9_isOver 88 = .ok (.ifCond .ge 5, 3) := by decide +kernel
theorem dX9_isOver_91 : decode cX9_isOver 91 = .ok (.iconst 1, 1) := by decide +kernel
theorem dX9_isOver_92 : decode cX9_isOver 92 = .ok (.ireturn, 1) := by decide +kernel
theorem dX9_isOver_93 : decode cX9_isOver 93 = .ok (.aload_n 0, 1) := by decide +kernel
theorem dX9_isOver_94 : decode cX9_isOver 94 = .ok (.getfield 93, 3) := by decide +kernel
theorem dX9_isOver_97 : decode cX9_isOver 97 = .ok (.iload_n 3, 1) := by decide +kernel
theorem dX9_isOver_98 : decode cX9_isOver 98 = .ok (.lload 6, 2) := by decide +kernel
theorem dX9_isOver_100 : decode cX9_isOver 100 = .ok (.lastore, 1) := by decide +kernel
theorem dX9_isOver_101 : decode cX9_isOver 101 = .ok (.iinc 2 1, 3) := by decide +kernel
theorem dX9_isOver_104 : decode cX9_isOver 104 = .ok (.goto (-67), 3) := by decide +kernel
theorem dX9_isOver_107 : decode cX9_isOver 107 = .ok (.iconst 0, 1) := by decide +kernel
theorem dX9_isOver_108 : decode cX9_isOver 108 = .ok (.ireturn, 1) := by decide +kernel
theorem dX9_isBelow_0 : decode cX9_isBelow 0 = .ok (.aload_n 0, 1) := by decide +kernel
theorem dX9_isBelow_1 : decode cX9_isBelow 1 = .ok (.getfield 33, 3) := by decide +kernel
theorem dX9_isBelow_4 : decode cX9_isBelow 4 = .ok (.bipush 40, 2) := by decide +kernel
theorem dX9_isBelow_6 : decode cX9_isBelow 6 = .ok (.iload_n 1, 1) := by decide +kernel
theorem dX9_isBelow_7 : decode cX9_isBelow 7 = .ok (.imul, 1) := by decide +kernel
theorem dX9_isBelow_8 : decode cX9_isBelow 8 = .ok (.iload_n 2, 1) := by decide +kernel
theorem dX9_isBelow_9 : decode cX9_isBelow 9 = .ok (.iadd, 1) := by decide +kernel
theorem dX9_isBelow_10 : decode cX9_isBelow 10 = .ok (.laload, 1) := by decide +kernel
theorem dX9_isBelow_11 : decode cX9_isBelow 11 = .ok (.lstore_n 3, 1) := by decide +kernel
theorem dX9_isBelow_12 : decode cX9_isBelow 12 = .ok (.aload_n 0, 1) := by decide +kernel
theorem dX9_isBelow_13 : decode cX9_isBelow 13 = .ok (.getfield 36, 3) := by decide +kernel
theorem dX9_isBelow_16 : decode cX9_isBelow 16 = .ok (.bipush 40, 2) := by decide +kernel
theorem dX9_isBelow_18 : decode cX9_isBelow 18 = .ok (.iload_n 1, 1) := by decide +kernel
theorem dX9_isBelow_19 : decode cX9_isBelow 19 = .ok (.imul, 1) := by decide +kernel
theorem dX9_isBelow_20 : decode cX9_isBelow 20 = .ok (.iload_n 2, 1) := by decide +kernel
theorem dX9_isBelow_21 : decode cX9_isBelow 21 = .ok (.iadd, 1) := by decide +kernel
theorem dX9_isBelow_22 : decode cX9_isBelow 22 = .ok (.laload, 1) := by decide +kernel
theorem dX9_isBelow_23 : decode cX9_isBelow 23 = .ok (.lstore 5, 2) := by decide +kernel
theorem dX9_isBelow_25 : decode cX9_isBelow 25 = .ok (.aload_n 0, 1) := by decide +kernel
theorem dX9_isBelow_26 : decode cX9_isBelow 26 = .ok (.getfield 217, 3) := by decide +kernel
theorem dX9_isBelow_29 : decode cX9_isBelow 29 = .ok (.iconst 3, 1) := by decide +kernel
theorem dX9_isBelow_30 : decode cX9_isBelow 30 = .ok (.if_icmp .ne 34, 3) := by decide +kernel
theorem dX9_isBelow_33 : decode cX9_isBelow 33 = .ok (.iload_n 2, 1) := by decide +kernel
theorem dX9_isBelow_34 : decode cX9_isBelow 34 = .ok (.aload_n 0, 1) := by decide +kernel
theorem dX9_isBelow_35 : decode cX9_isBelow 35 = .ok (.getfield 231, 3) := by decide +kernel
theorem dX9_isBelow_38 : decode cX9_isBelow 38 = .ok (.if_icmp .ne 26, 3) := by decide +kernel
theorem dX9_isBelow_41 : decode cX9_isBelow 41 = .ok (.lload_n 3, 1) := by decide +kernel
theorem dX9_isBelow_42 : decode cX9_isBelow 42 = .ok (.aload_n 0, 1) := by decide +kernel
theorem dX9_isBelow_43 : decode cX9_isBelow 43 = .ok (.getfield 234, 3) := by decide +kernel
theorem dX9_isBelow_46 : decode cX9_isBelow 46 = .ok (.bipush 32, 2) := by decide +kernel
theorem dX9_isBelow_48 : decode cX9_isBelow 48 = .ok (.lshr, 1) := by decide +kernel
theorem dX9_isBelow_49 : decode cX9_isBelow 49 = .ok (.ladd, 1) := by decide +kernel
theorem dX9_isBelow_50 : decode cX9_isBelow 50 = .ok (.lstore_n 3, 1) := by decide +kernel
theorem dX9_isBelow_51 : decode cX9_isBelow 51 = .ok (.lload 5, 2) := by decide +kernel
theorem dX9_isBelow_53 : decode cX9_isBelow 53 = .ok (.aload_n 0, 1) := by decide +kernel
theorem dX9_isBelow_54 : decode cX9_isBelow 54 = .ok (.getfield 234, 3) := by decide +kernel
theorem dX9_isBelow_57 : decode cX9_isBelow 57 = .ok (.ldc2_w 261, 3) := by decide +kernel
theorem dX9_isBelow_60 : decode cX9_isBelow 60 = .ok (.land, 1) := by decide +kernel
theorem dX9_isBelow_61 : decode cX9_isBelow 61 = .ok (.ladd, 1) := by decide +kernel
theorem dX9_isBelow_62 : decode cX9_isBelow 62 = .ok (.lstore 5, 2) := by decide +kernel
theorem dX9_isBelow_64 : decode cX9_isBelow 64 = .ok (.aload_n 0, 1) := by decide +kernel
theorem dX9_isBelow_65 : decode cX9_isBelow 65 = .ok (.getfield 217, 3) := by decide +kernel
theorem dX9_isBelow_68 : decode cX9_isBelow 68 = .ok (.iconst 5, 1) := by decide +kernel
end
section
theorem dX9_isBelow_69 : decode cX9_isBelow 69 = .ok (.if_icmp .ne 67, 3) := by decide +kernel
theorem dX9_isBelow_72 : decode cX9_isBelow 72 = .ok (.iload_n 2, 1) := by decide +kernel
theorem dX9_isBelow_73 : decode cX9_isBelow 73 = .ok (.aload_n 0, 1) := by decide +kernel
theorem dX9_isBelow_74 : decode cX9_isBelow 74 = .ok (.getfield 54, 3) := by decide +kernel
theorem dX9_isBelow_77 : decode cX9_isBelow 77 = .ok (.sipush 200, 3) := by decide +kernel
theorem dX9_isBelow_80 : decode cX9_isBelow 80 = .ok (.iload_n 1, 1) := by decide +kernel
theorem dX9_isBelow_81 : decode cX9_isBelow 81 = .ok (.imul, 1) := by decide +kernel
theorem dX9_isBelow_82 : decode cX9_isBelow 82 = .ok (.aload_n 0, 1) := by decide +kernel
theorem dX9_isBelow_83 : decode cX9_isBelow 83 = .ok (.getfield 228, 3) := by decide +kernel
theorem dX9_isBelow_86 : decode cX9_isBelow 86 = .ok (.iadd, 1) := by decide +kernel
theorem dX9_isBelow_87 : decode cX9_isBelow 87 = .ok (.iaload, 1) := by decide +kernel
theorem dX9_isBelow_88 : decode cX9_isBelow 88 = .ok (.if_icmp .ne 48, 3) := by decide +kernel
theorem dX9_isBelow_91 : decode cX9_isBelow 91 = .ok (.lload_n 3, 1) := by decide +kernel
theorem dX9_isBelow_92 : decode cX9_isBelow 92 = .ok (.aload_n 0, 1) := by decide +kernel
theorem dX9_isBelow_93 : decode cX9_isBelow 93 = .ok (.getfield 57, 3) := by decide +kernel
theorem dX9_isBelow_96 : decode cX9_isBelow 96 = .ok (.sipush 200, 3) := by decide +kernel
theorem dX9_isBelow_99 : decode cX9_isBelow 99 = .ok (.iload_n 1, 1) := by decide +kernel
theorem dX9_isBelow_100 : decode cX9_isBelow 100 = .ok (.imul, 1) := by decide +kernel
theorem dX9_isBelow_101 : decode cX9_isBelow 101 = .ok (.aload_n 0, 1) := by decide +kernel
theorem dX9_isBelow_102 : decode cX9_isBelow 102 = .ok (.getfield 228, 3) := by decide +kernel
theorem dX9_isBelow_105 : decode cX9_isBelow 105 = .ok (.iadd, 1) := by decide +kernel
theorem dX9_isBelow_106 : decode cX9_isBelow 106 = .ok (.laload, 1) := by decide +kernel
theorem dX9_isBelow_107 : decode cX9_isBelow 107 = .ok (.bipush 32, 2) := by decide +kernel
theorem dX9_isBelow_109 : decode cX9_isBelow 109 = .ok (.lshr, 1) := by decide +kernel
theorem dX9_isBelow_110 : decode cX9_isBelow 110 = .ok (.lsub, 1) := by decide +kernel
theorem dX9_isBelow_111 : decode cX9_isBelow 111 = .ok (.lstore_n 3, 1) := by decide +kernel
theorem dX9_isBelow_112 : decode cX9_isBelow 112 = .ok (.lload 5, 2) := by decide +kernel
theorem dX9_isBelow_114 : decode cX9_isBelow 114 = .ok (.aload_n 0, 1) := by decide +kernel
theorem dX9_isBelow_115 : decode cX9_isBelow 115 = .ok (.getfield 57, 3) := by decide +kernel
theorem dX9_isBelow_118 : decode cX9_isBelow 118 = .ok (.sipush 200, 3) := by decide +kernel
theorem dX9_isBelow_121 : decode cX9_isBelow 121 = .ok (.iload_n 1, 1) := by decide +kernel
theorem dX9_isBelow_122 : decode cX9_isBelow 122 = .ok (.imul, 1) := by decide +kernel
theorem dX9_isBelow_123 : decode cX9_isBelow 123 = .ok (.aload_n 0, 1) := by decide +kernel
theorem dX9_isBelow_124 : decode cX9_isBelow 124 = .ok (.getfield 228, 3) := by decide +kernel
theorem dX9_isBelow_127 : decode cX9_isBelow 127 = .ok (.iadd, 1) := by decide +kernel
theorem dX9_isBelow_128 : decode cX9_isBelow 128 = .ok (.laload, 1) := by decide +kernel
theorem dX9_isBelow_129 : decode cX9_isBelow 129 = .ok (.ldc2_w 261, 3) := by decide +kernel
theorem dX9_isBelow_132 : decode cX9_isBelow 132 = .ok (.land, 1) := by decide +kernel
theorem dX9_isBelow_133 : decode cX9_isBelow 133 = .ok (.lsub, 1) := by decide +kernel
theorem dX9_isBelow_134 : decode cX9_isBelow 134 = .ok (.lstore 5, 2) := by decide +kernel
theorem dX9_isBelow_136 : decode cX9_isBelow 136 = .ok (.aload_n 0, 1) := by decide +kernel
theorem dX9_isBelow_137 : decode cX9_isBelow 137 = .ok (.getfield 26, 3) := by decide +kernel
theorem dX9_isBelow_140 : decode cX9_isBelow 140 = .ok (.bipush 40, 2) := by decide +kernel
theorem dX9_isBelow_142 : decode cX9_isBelow 142 = .ok (.iload_n 1, 1) := by decide +kernel
theorem dX9_isBelow_143 : decode cX9_isBelow 143 = .ok (.imul, 1) := by decide +kernel
theorem dX9_isBelow_144 : decode cX9_isBelow 144 = .ok (.iload_n 2, 1) := by decide +kernel
theorem dX9_isBelow_145 : decode cX9_isBelow 145 = .ok (.iadd, 1) := by decide +kernel
theorem dX9_isBelow_146 : decode cX9_isBelow 146 = .ok (.laload, 1) := by decide +kernel
theorem dX9_isBelow_147 : decode cX9_isBelow 147 = .ok (.lstore 7, 2) := by decide +kernel
theorem dX9_isBelow_149 : decode cX9_isBelow 149 = .ok (.aload_n 0, 1) := by decide +kernel
theorem dX9_isBelow_150 : decode cX9_isBelow 150 = .ok (.getfield 93, 3) := by decide +kernel
theorem dX9_isBelow_153 : decode cX9_isBelow 153 = .ok (.iload_n 2, 1) := by decide +kernel
theorem dX9_isBelow_154 : decode cX9_isBelow 154 = .ok (.laload, 1) := by decide +kernel
theorem dX9_isBelow_155 : decode cX9_isBelow 155 = .ok (.bipush 32, 2) := by decide +kernel
theorem dX9_isBelow_157 : decode cX9_isBelow 157 = .ok (.lshr, 1) := by decide +kernel
theorem dX9_isBelow_158 : decode cX9_isBelow 158 = .ok (.lload_n 3, 1) := by decide +kernel
theorem dX9_isBelow_159 : decode cX9_isBelow 159 = .ok (.lsub, 1) := by decide +kernel
theorem dX9_isBelow_160 : decode cX9_isBelow 160 = .ok (.lload 7, 2) := by decide +kernel
theorem dX9_isBelow_162 : decode cX9_isBelow 162 = .ok (.bipush 32, 2) := by decide +kernel
theorem dX9_isBelow_164 : decode cX9_isBelow 164 = .ok (.lshr, 1) := by decide +kernel
theorem dX9_isBelow_165 : decode cX9_isBelow 165 = .ok (.lsub, 1) := by decide +kernel
theorem dX9_isBelow_166 : decode cX9_isBelow 166 = .ok (.lstore 9, 2) := by decide +kernel
theorem dX9_isBelow_168 : decode cX9_isBelow 168 = .ok (.aload_n 0, 1) := by decide +kernel
theorem dX9_isBelow_169 : decode cX9_isBelow 169 = .ok (.getfield 93, 3) := by decide +kernel
theorem dX9_isBelow_172 : decode cX9_isBelow 172 = .ok (.iload_n 2, 1) := by decide +kernel
theorem dX9_isBelow_173 : decode cX9_isBelow 173 = .ok (.laload, 1) := by decide +kernel
theorem dX9_isBelow_174 : decode cX9_isBelow 174 = .ok (.ldc2_w 261, 3) := by decide +kernel
theorem dX9_isBelow_177 : decode cX9_isBelow 177 = .ok (.land, 1) := by decide +kernel
theorem dX9_isBelow_178 : decode cX9_isBelow 178 = .ok (.lload 5, 2) := by decide +kernel
theorem dX9_isBelow_180 : decode cX9_isBelow 180 = .ok (.lsub, 1) := by decide +kernel
theorem dX9_isBelow_181 : decode cX9_isBelow 181 = .ok (.lload 7, 2) := by decide +kernel
theorem dX9_isBelow_183 : decode cX9_isBelow 183 = .ok (.ldc2_w 261, 3) := by decide +kernel
theorem dX9_isBelow_186 : decode cX9_isBelow 186 = .ok (.land, 1) := by decide +kernel
theorem dX9_isBelow_187 : decode cX9_isBelow 187 = .ok (.lsub, 1) := by decide +kernel
theorem dX9_isBelow_188 : decode cX9_isBelow 188 = .ok (.lstore 11, 2) := by decide +kernel
theorem dX9_isBelow_190 : decode cX9_isBelow 190 = .ok (.lload 9, 2) := by decide +kernel
theorem dX9_isBelow_192 : decode cX9_isBelow 192 = .ok (.lload 11, 2) := by decide +kernel
theorem dX9_isBelow_194 : decode cX9_isBelow 194 = .ok (.bipush 32, 2) := by decide +kernel
theorem dX9_isBelow_196 : decode cX9_isBelow 196 = .ok (.lshr, 1) := by decide +kernel
theorem dX9_isBelow_197 : decode cX9_isBelow 197 = .ok (.ladd, 1) := by decide +kernel
theorem dX9_isBelow_198 : decode cX9_isBelow 198 = .ok (.lconst 0, 1) := by decide +kernel
theorem dX9_isBelow_199 : decode cX9_isBelow 199 = .ok (.lcmp, 1) := by decide +kernel
theorem dX9_isBelow_200 : decode cX9_isBelow 200 = .ok (.ifCond .ge 7, 3) := by decide +kernel
theorem dX9_isBelow_203 : decode cX9_isBelow 203 = .ok (.iconst 1, 1) := by decide +kernel
theorem dX9_isBelow_204 : decode cX9_isBelow 204 = .ok (.goto 4, 3) := by decide +kernel
theorem dX9_isBelow_207 : decode cX9_isBelow 207 = .ok (.iconst 0, 1) := by decide +kernel
theorem dX9_isBelow_208 : decode cX9_isBelow 208 = .ok (.ireturn, 1) := by decide +kernel
theorem dX9_refused_0 : decode cX9_refused 0 = .ok (.aload_n 0, 1) := by decide +kernel
theorem dX9_refused_1 : decode cX9_refused 1 = .ok (.iload_n 1, 1) := by decide +kernel
theorem dX9_refused_2 : decode cX9_refused 2 = .ok (.invokevirtual 263, 3) := by decide +kernel
theorem dX9_refused_5 : decode cX9_refused 5 = .ok (.ifCond .eq 6, 3) := by decide +kernel
theorem dX9_refused_8 : decode cX9_refused 8 = .ok (.bipush (-2), 2) := by decide +kernel
theorem dX9_refused_10 : decode cX9_refused 10 = .ok (.ireturn, 1) := by decide +kernel
theorem dX9_refused_11 : decode cX9_refused 11 = .ok (.aload_n 0, 1) := by decide +kernel
theorem dX9_refused_12 : decode cX9_refused 12 = .ok (.invokevirtual 267, 3) := by decide +kernel
theorem dX9_refused_15 : decode cX9_refused 15 = .ok (.ifCond .eq 6, 3) := by decide +kernel
theorem dX9_refused_18 : decode cX9_refused 18 = .ok (.bipush (-3), 2) := by decide +kernel
theorem dX9_refused_20 : decode cX9_refused 20 = .ok (.ireturn, 1) := by decide +kernel
theorem dX9_refused_21 : decode cX9_refused 21 = .ok (.aload_n 0, 1) := by decide +kernel
theorem dX9_refused_22 : decode cX9_refused 22 = .ok (.getfield 217, 3) := by decide +kernel
theorem dX9_refused_25 : decode cX9_refused 25 = .ok (.bipush 6, 2) := by decide +kernel
theorem dX9_refused_27 : decode cX9_refused 27 = .ok (.if_icmp .ne 25, 3) := by decide +kernel
theorem dX9_refused_30 : decode cX9_refused 30 = .ok (.aload_n 0, 1) := by decide +kernel
theorem dX9_refused_31 : decode cX9_refused 31 = .ok (.getfield 63, 3) := by decide +kernel
theorem dX9_refused_34 : decode cX9_refused 34 = .ok (.sipush 200, 3) := by decide +kernel
theorem dX9_refused_37 : decode cX9_refused 37 = .ok (.iload_n 1, 1) := by decide +kernel
theorem dX9_refused_38 : decode cX9_refused 38 = .ok (.imul, 1) := by decide +kernel
theorem dX9_refused_39 : decode cX9_refused 39 = .ok (.aload_n 0, 1) := by decide +kernel
theorem dX9_refused_40 : decode cX9_refused 40 = .ok (.getfield 228, 3) := by decide +kernel
theorem dX9_refused_43 : decode cX9_refused 43 = .ok (.iadd, 1) := by decide +kernel
theorem dX9_refused_44 : decode cX9_refused 44 = .ok (.iaload, 1) := by decide +kernel
theorem dX9_refused_45 : decode cX9_refused 45 = .ok (.iconst (-1), 1) := by decide +kernel
theorem dX9_refused_46 : decode cX9_refused 46 = .ok (.if_icmp .eq 6, 3) := by decide +kernel
theorem dX9_refused_49 : decode cX9_refused 49 = .ok (.bipush (-7), 2) := by decide +kernel
theorem dX9_refused_51 : decode cX9_refused 51 = .ok (.ireturn, 1) := by decide +kernel
theorem dX9_refused_52 : decode cX9_refused 52 = .ok (.aload_n 0, 1) := by decide +kernel
theorem dX9_refused_53 : decode cX9_refused 53 = .ok (.iload_n 1, 1) := by decide +kernel
theorem dX9_refused_54 : decode cX9_refused 54 = .ok (.invokevirtual 271, 3) := by decide +kernel
theorem dX9_refused_57 : decode cX9_refused 57 = .ok (.ifCond .eq 6, 3) := by decide +kernel
theorem dX9_refused_60 : decode cX9_refused 60 = .ok (.bipush (-5), 2) := by decide +kernel
theorem dX9_refused_62 : decode cX9_refused 62 = .ok (.ireturn, 1) := by decide +kernel
theorem dX9_refused_63 : decode cX9_refused 63 = .ok (.aload_n 0, 1) := by decide +kernel
theorem dX9_refused_64 : decode cX9_refused 64 = .ok (.getfield 217, 3) := by decide +kernel
theorem dX9_refused_67 : decode cX9_refused 67 = .ok (.iconst 3, 1) := by decide +kernel
theorem dX9_refused_68 : decode cX9_refused 68 = .ok (.if_icmp .ne 19, 3) := by decide +kernel
theorem dX9_refused_71 : decode cX9_refused 71 = .ok (.aload_n 0, 1) := by decide +kernel
theorem dX9_refused_72 : decode cX9_refused 72 = .ok (.iload_n 1, 1) := by decide +kernel
theorem dX9_refused_73 : decode cX9_refused 73 = .ok (.aload_n 0, 1) := by decide +kernel
theorem dX9_refused_74 : decode cX9_refused 74 = .ok (.getfield 231, 3) := by decide +kernel
theorem dX9_refused_77 : decode cX9_refused 77 = .ok (.invokevirtual 274, 3) := by decide +kernel
theorem dX9_refused_80 : decode cX9_refused 80 = .ok (.ifCond .eq 7, 3) := by decide +kernel
theorem dX9_refused_83 : decode cX9_refused 83 = .ok (.iconst 1, 1) := by decide +kernel
theorem dX9_refused_84 : decode cX9_refused 84 = .ok (.goto 4, 3) := by decide +kernel
theorem dX9_refused_87 : decode cX9_refused 87 = .ok (.iconst 0, 1) := by decide +kernel
theorem dX9_refused_88 : decode cX9_refused 88 = .ok (.istore_n 2, 1) := by decide +kernel
theorem dX9_refused_89 : decode cX9_refused 89 = .ok (.iconst 0, 1) := by decide +kernel
theorem dX9_refused_90 : decode cX9_refused 90 = .ok (.istore_n 3, 1) := by decide +kernel
theorem dX9_refused_91 : decode cX9_refused 91 = .ok (.iload_n 3, 1) := by decide +kernel
theorem dX9_refused_92 : decode cX9_refused 92 = .ok (.aload_n 0, 1) := by decide +kernel
theorem dX9_refused_93 : decode cX9_refused 93 = .ok (.getfield 225, 3) := by decide +kernel
theorem dX9_refused_96 : decode cX9_refused 96 = .ok (.if_icmp .ge 33, 3) := by decide +kernel
theorem dX9_refused_99 : decode cX9_refused 99 = .ok (.iload_n 2, 1) := by decide +kernel
theorem dX9_refused_100 : decode cX9_refused 100 = .ok (.ifCond .ne 17, 3) := by decide +kernel
theorem dX9_refused_103 : decode cX9_refused 103 = .ok (.aload_n 0, 1) := by decide +kernel
theorem dX9_refused_104 : decode cX9_refused 104 = .ok (.iload_n 1, 1) := by decide +kernel
theorem dX9_refused_105 : decode cX9_refused 105 = .ok (.aload_n 0, 1) := by decide +kernel
theorem dX9_refused_106 : decode cX9_refused 106 = .ok (.getfield 84, 3) := by decide +kernel
theorem dX9_refused_109 : decode cX9_refused 109 = .ok (.iload_n 3, 1) := by decide +kernel
theorem dX9_refused_110 : decode cX9_refused 110 = .ok (.iaload, 1) := by decide +kernel
theorem dX9_refused_111 : decode cX9_refused 111 = .ok (.invokevirtual 274, 3) := by decide +kernel
theorem dX9_refused_114 : decode cX9_refused 114 = .ok (.ifCond .eq 7, 3) := by decide +kernel
theorem dX9_refused_117 : decode cX9_refused 117 = .ok (.iconst 1, 1) := by decide +kernel
theorem dX9_refused_118 : decode cX9_refused 118 = .ok (.goto 4, 3) := by decide +kernel
theorem dX9_refused_121 : decode cX9_refused 121 = .ok (.iconst 0, 1) := by decide +kernel
theorem dX9_refused_122 : decode cX9_refused 122 = .ok (.istore_n 2, 1) := by decide +kernel
theorem dX9_refused_123 : decode cX9_refused 123 = .ok (.iinc 3 1, 3) := by decide +kernel
theorem dX9_refused_126 : decode cX9_refused 126 = .ok (.goto (-35), 3) := by decide +kernel
theorem dX9_refused_129 : decode cX9_refused 129 = .ok (.iload_n 2, 1) := by decide +kernel
theorem dX9_refused_130 : decode cX9_refused 130 = .ok (.ifCond .eq 6, 3) := by decide +kernel
theorem dX9_refused_133 : decode cX9_refused 133 = .ok (.bipush (-6), 2) := by decide +kernel
theorem dX9_refused_135 : decode cX9_refused 135 = .ok (.ireturn, 1) := by decide +kernel
theorem dX9_refused_136 : decode cX9_refused 136 = .ok (.aload_n 0, 1) := by decide +kernel
theorem dX9_refused_137 : decode cX9_refused 137 = .ok (.getfield 13, 3) := by decide +kernel
theorem dX9_refused_140 : decode cX9_refused 140 = .ok (.iload_n 1, 1) := by decide +kernel
theorem dX9_refused_141 : decode cX9_refused 141 = .ok (.iaload, 1) := by decide +kernel
theorem dX9_refused_142 : decode cX9_refused 142 = .ok (.sipush 200, 3) := by decide +kernel
theorem dX9_refused_145 : decode cX9_refused 145 = .ok (.if_icmp .ne 8, 3) := by decide +kernel
theorem dX9_refused_148 : decode cX9_refused 148 = .ok (.bipush (-8), 2) := by decide +kernel
theorem dX9_refused_150 : decode cX9_refused 150 = .ok (.goto 4, 3) := by decide +kernel
theorem dX9_refused_153 : decode cX9_refused 153 = .ok (.iconst 0, 1) := by decide +kernel
theorem dX9_refused_154 : decode cX9_refused 154 = .ok (.ireturn, 1) := by decide +kernel
theorem dX9_hold_0 : decode cX9_hold 0 = .ok (.bipush 40, 2) := by decide +kernel
theorem dX9_hold_2 : decode cX9_hold 2 = .ok (.iload_n 1, 1) := by decide +kernel
theorem dX9_hold_3 : decode cX9_hold 3 = .ok (.imul, 1) := by decide +kernel
theorem dX9_hold_4 : decode cX9_hold 4 = .ok (.iload_n 2, 1) := by decide +kernel
theorem dX9_hold_5 : decode cX9_hold 5 = .ok (.iadd, 1) := by decide +kernel
theorem dX9_hold_6 : decode cX9_hold 6 = .ok (.istore 6, 2) := by decide +kernel
theorem dX9_hold_8 : decode cX9_hold 8 = .ok (.aload_n 0, 1) := by decide +kernel
theorem dX9_hold_9 : decode cX9_hold 9 = .ok (.getfield 36, 3) := by decide +kernel
theorem dX9_hold_12 : decode cX9_hold 12 = .ok (.iload 6, 2) := by decide +kernel
theorem dX9_hold_14 : decode cX9_hold 14 = .ok (.laload, 1) := by decide +kernel
theorem dX9_hold_15 : decode cX9_hold 15 = .ok (.iload 5, 2) := by decide +kernel
theorem dX9_hold_17 : decode cX9_hold 17 = .ok (.i2l, 1) := by decide +kernel
theorem dX9_hold_18 : decode cX9_hold 18 = .ok (.lload_n 3, 1) := by decide +kernel
theorem dX9_hold_19 : decode cX9_hold 19 = .ok (.ldc2_w 261, 3) := by decide +kernel
theorem dX9_hold_22 : decode cX9_hold 22 = .ok (.land, 1) := by decide +kernel
theorem dX9_hold_23 : decode cX9_hold 23 = .ok (.lmul, 1) := by decide +kernel
theorem dX9_hold_24 : decode cX9_hold 24 = .ok (.ladd, 1) := by decide +kernel
theorem dX9_hold_25 : decode cX9_hold 25 = .ok (.lstore 7, 2) := by decide +kernel
theorem dX9_hold_27 : decode cX9_hold 27 = .ok (.aload_n 0, 1) := by decide +kernel
theorem dX9_hold_28 : decode cX9_hold 28 = .ok (.getfield 33, 3) := by decide +kernel
theorem dX9_hold_31 : decode cX9_hold 31 = .ok (.iload 6, 2) := by decide +kernel
theorem dX9_hold_33 : decode cX9_hold 33 = .ok (.dup2, 1) := by decide +kernel
theorem dX9_hold_34 : decode cX9_hold 34 = .ok (.laload, 1) := by decide +kernel
theorem dX9_hold_35 : decode cX9_hold 35 = .ok (.iload 5, 2) := by decide +kernel
theorem dX9_hold_37 : decode cX9_hold 37 = .ok (.i2l, 1) := by decide +kernel
theorem dX9_hold_38 : decode cX9_hold 38 = .ok (.lload_n 3, 1) := by decide +kernel
theorem dX9_hold_39 : decode cX9_hold 39 = .ok (.bipush 32, 2) := by decide +kernel
theorem dX9_hold_41 : decode cX9_hold 41 = .ok (.lshr, 1) := by decide +kernel
theorem dX9_hold_42 : decode cX9_hold 42 = .ok (.lmul, 1) := by decide +kernel
theorem dX9_hold_43 : decode cX9_hold 43 = .ok (.lload 7, 2) := by decide +kernel
theorem dX9_hold_45 : decode cX9_hold 45 = .ok (.bipush 32, 2) := by decide +kernel
theorem dX9_hold_47 : decode cX9_hold 47 = .ok (.lshr, 1) := by decide +kernel
theorem dX9_hold_48 : decode cX9_hold 48 = .ok (.ladd, 1) := by decide +kernel
theorem dX9_hold_49 : decode cX9_hold 49 = .ok (.ladd, 1) := by decide +kernel
theorem dX9_hold_50 : decode cX9_hold 50 = .ok (.lastore, 1) := by decide +kernel
theorem dX9_hold_51 : decode cX9_hold 51 = .ok (.aload_n 0, 1) := by decide +kernel
theorem dX9_hold_52 : decode cX9_hold 52 = .ok (.getfield 36, 3) := by decide +kernel
theorem dX9_hold_55 : decode cX9_hold 55 = .ok (.iload 6, 2) := by decide +kernel
theorem dX9_hold_57 : decode cX9_hold 57 = .ok (.lload 7, 2) := by decide +kernel
theorem dX9_hold_59 : decode cX9_hold 59 = .ok (.ldc2_w 261, 3) := by decide +kernel
theorem dX9_hold_62 : decode cX9_hold 62 = .ok (.land, 1) := by decide +kernel
theorem dX9_hold_63 : decode cX9_hold 63 = .ok (.lastore, 1) := by decide +kernel
theorem dX9_hold_64 : decode cX9_hold 64 = .ok (.return_, 1) := by decide +kernel
theorem dX9_does_0 : decode cX9_does 0 = .ok (.aload_n 0, 1) := by decide +kernel
theorem dX9_does_1 : decode cX9_does 1 = .ok (.getfield 13, 3) := by decide +kernel
theorem dX9_does_4 : decode cX9_does 4 = .ok (.iload_n 1, 1) := by decide +kernel
theorem dX9_does_5 : decode cX9_does 5 = .ok (.iaload, 1) := by decide +kernel
theorem dX9_does_6 : decode cX9_does 6 = .ok (.istore_n 2, 1) := by decide +kernel
theorem dX9_does_7 : decode cX9_does 7 = .ok (.sipush 200, 3) := by decide +kernel
theorem dX9_does_10 : decode cX9_does 10 = .ok (.iload_n 1, 1) := by decide +kernel
theorem dX9_does_11 : decode cX9_does 11 = .ok (.imul, 1) := by decide +kernel
theorem dX9_does_12 : decode cX9_does 12 = .ok (.iload_n 2, 1) := by decide +kernel
theorem dX9_does_13 : decode cX9_does 13 = .ok (.iadd, 1) := by decide +kernel
theorem dX9_does_14 : decode cX9_does 14 = .ok (.istore_n 3, 1) := by decide +kernel
theorem dX9_does_15 : decode cX9_does 15 = .ok (.aload_n 0, 1) := by decide +kernel
theorem dX9_does_16 : decode cX9_does 16 = .ok (.getfield 39, 3) := by decide +kernel
theorem dX9_does_19 : decode cX9_does 19 = .ok (.iload_n 3, 1) := by decide +kernel
theorem dX9_does_20 : decode cX9_does 20 = .ok (.aload_n 0, 1) := by decide +kernel
theorem dX9_does_21 : decode cX9_does 21 = .ok (.getfield 217, 3) := by decide +kernel
theorem dX9_does_24 : decode cX9_does 24 = .ok (.iastore, 1) := by decide +kernel
theorem dX9_does_25 : decode cX9_does 25 = .ok (.aload_n 0, 1) := by decide +kernel
theorem dX9_does_26 : decode cX9_does 26 = .ok (.getfield 42, 3) := by decide +kernel
theorem dX9_does_29 : decode cX9_does 29 = .ok (.iload_n 3, 1) := by decide +kernel
theorem dX9_does_30 : decode cX9_does 30 = .ok (.aload_n 0, 1) := by decide +kernel
theorem dX9_does_31 : decode cX9_does 31 = .ok (.getfield 221, 3) := by decide +kernel
theorem dX9_does_34 : decode cX9_does 34 = .ok (.lastore, 1) := by decide +kernel
theorem dX9_does_35 : decode cX9_does 35 = .ok (.aload_n 0, 1) := by decide +kernel
theorem dX9_does_36 : decode cX9_does 36 = .ok (.getfield 45, 3) := by decide +kernel
theorem dX9_does_39 : decode cX9_does 39 = .ok (.iload_n 3, 1) := by decide +kernel
theorem dX9_does_40 : decode cX9_does 40 = .ok (.aload_n 0, 1) := by decide +kernel
theorem dX9_does_41 : decode cX9_does 41 = .ok (.getfield 225, 3) := by decide +kernel
theorem dX9_does_44 : decode cX9_does 44 = .ok (.iastore, 1) := by decide +kernel
theorem dX9_does_45 : decode cX9_does 45 = .ok (.aload_n 0, 1) := by decide +kernel
theorem dX9_does_46 : decode cX9_does 46 = .ok (.getfield 60, 3) := by decide +kernel
theorem dX9_does_49 : decode cX9_does 49 = .ok (.iload_n 3, 1) := by decide +kernel
theorem dX9_does_50 : decode cX9_does 50 = .ok (.aload_n 0, 1) := by decide +kernel
theorem dX9_does_51 : decode cX9_does 51 = .ok (.getfield 217, 3) := by decide +kernel
theorem dX9_does_54 : decode cX9_does 54 = .ok (.iconst 3, 1) := by decide +kernel
theorem dX9_does_55 : decode cX9_does 55 = .ok (.if_icmp .ne 7, 3) := by decide +kernel
theorem dX9_does_58 : decode cX9_does 58 = .ok (.iconst 1, 1) := by decide +kernel
theorem dX9_does_59 : decode cX9_does 59 = .ok (.goto 4, 3) := by decide +kernel
theorem dX9_does_62 : decode cX9_does 62 = .ok (.iconst 0, 1) := by decide +kernel
theorem dX9_does_63 : decode cX9_does 63 = .ok (.bastore, 1) := by decide +kernel
theorem dX9_does_64 : decode cX9_does 64 = .ok (.aload_n 0, 1) := by decide +kernel
theorem dX9_does_65 : decode cX9_does 65 = .ok (.getfield 63, 3) := by decide +kernel
theorem dX9_does_68 : decode cX9_does 68 = .ok (.iload_n 3, 1) := by decide +kernel
theorem dX9_does_69 : decode cX9_does 69 = .ok (.iconst (-1), 1) := by decide +kernel
theorem dX9_does_70 : decode cX9_does 70 = .ok (.iastore, 1) := by decide +kernel
theorem dX9_does_71 : decode cX9_does 71 = .ok (.aload_n 0, 1) := by decide +kernel
theorem dX9_does_72 : decode cX9_does 72 = .ok (.getfield 54, 3) := by decide +kernel
theorem dX9_does_75 : decode cX9_does 75 = .ok (.iload_n 3, 1) := by decide +kernel
theorem dX9_does_76 : decode cX9_does 76 = .ok (.aload_n 0, 1) := by decide +kernel
theorem dX9_does_77 : decode cX9_does 77 = .ok (.getfield 231, 3) := by decide +kernel
theorem dX9_does_80 : decode cX9_does 80 = .ok (.iastore, 1) := by decide +kernel
theorem dX9_does_81 : decode cX9_does 81 = .ok (.aload_n 0, 1) := by decide +kernel
theorem dX9_does_82 : decode cX9_does 82 = .ok (.getfield 57, 3) := by decide +kernel
theorem dX9_does_85 : decode cX9_does 85 = .ok (.iload_n 3, 1) := by decide +kernel
theorem dX9_does_86 : decode cX9_does 86 = .ok (.aload_n 0, 1) := by decide +kernel
theorem dX9_does_87 : decode cX9_does 87 = .ok (.getfield 234, 3) := by decide +kernel
theorem dX9_does_90 : decode cX9_does 90 = .ok (.lastore, 1) := by decide +kernel
theorem dX9_does_91 : decode cX9_does 91 = .ok (.iconst 0, 1) := by decide +kernel
theorem dX9_does_92 : decode cX9_does 92 = .ok (.istore 4, 2) := by decide +kernel
theorem dX9_does_94 : decode cX9_does 94 = .ok (.iload 4, 2) := by decide +kernel
theorem dX9_does_96 : decode cX9_does 96 = .ok (.aload_n 0, 1) := by decide +kernel
theorem dX9_does_97 : decode cX9_does 97 = .ok (.getfield 225, 3) := by decide +kernel
theorem dX9_does_100 : decode cX9_does 100 = .ok (.if_icmp .ge 74, 3) := by decide +kernel
theorem dX9_does_103 : decode cX9_does 103 = .ok (.aload_n 0, 1) := by decide +kernel
theorem dX9_does_104 : decode cX9_does 104 = .ok (.getfield 48, 3) := by decide +kernel
theorem dX9_does_107 : decode cX9_does 107 = .ok (.bipush 8, 2) := by decide +kernel
theorem dX9_does_109 : decode cX9_does 109 = .ok (.iload_n 3, 1) := by decide +kernel
theorem dX9_does_110 : decode cX9_does 110 = .ok (.imul, 1) := by decide +kernel
theorem dX9_does_111 : decode cX9_does 111 = .ok (.iload 4, 2) := by decide +kernel
theorem dX9_does_113 : decode cX9_does 113 = .ok (.iadd, 1) := by decide +kernel
theorem dX9_does_114 : decode cX9_does 114 = .ok (.aload_n 0, 1) := by decide +kernel
theorem dX9_does_115 : decode cX9_does 115 = .ok (.getfield 84, 3) := by decide +kernel
theorem dX9_does_118 : decode cX9_does 118 = .ok (.iload 4, 2) := by decide +kernel
theorem dX9_does_120 : decode cX9_does 120 = .ok (.iaload, 1) := by decide +kernel
theorem dX9_does_121 : decode cX9_does 121 = .ok (.iastore, 1) := by decide +kernel
theorem dX9_does_122 : decode cX9_does 122 = .ok (.aload_n 0, 1) := by decide +kernel
theorem dX9_does_123 : decode cX9_does 123 = .ok (.getfield 51, 3) := by decide +kernel
theorem dX9_does_126 : decode cX9_does 126 = .ok (.bipush 8, 2) := by decide +kernel
theorem dX9_does_128 : decode cX9_does 128 = .ok (.iload_n 3, 1) := by decide +kernel
theorem dX9_does_129 : decode cX9_does 129 = .ok (.imul, 1) := by decide +kernel
theorem dX9_does_130 : decode cX9_does 130 = .ok (.iload 4, 2) := by decide +kernel
theorem dX9_does_132 : decode cX9_does 132 = .ok (.iadd, 1) := by decide +kernel
theorem dX9_does_133 : decode cX9_does 133 = .ok (.aload_n 0, 1) := by decide +kernel
theorem dX9_does_134 : decode cX9_does 134 = .ok (.getfield 87, 3) := by decide +kernel
theorem dX9_does_137 : decode cX9_does 137 = .ok (.iload 4, 2) := by decide +kernel
theorem dX9_does_139 : decode cX9_does 139 = .ok (.laload, 1) := by decide +kernel
theorem dX9_does_140 : decode cX9_does 140 = .ok (.lastore, 1) := by decide +kernel
theorem dX9_does_141 : decode cX9_does 141 = .ok (.aload_n 0, 1) := by decide +kernel
theorem dX9_does_142 : decode cX9_does 142 = .ok (.getfield 30, 3) := by decide +kernel
theorem dX9_does_145 : decode cX9_does 145 = .ok (.bipush 40, 2) := by decide +kernel
theorem dX9_does_147 : decode cX9_does 147 = .ok (.iload_n 1, 1) := by decide +kernel
theorem dX9_does_148 : decode cX9_does 148 = .ok (.imul, 1) := by decide +kernel
theorem dX9_does_149 : decode cX9_does 149 = .ok (.aload_n 0, 1) := by decide +kernel
theorem dX9_does_150 : decode cX9_does 150 = .ok (.getfield 84, 3) := by decide +kernel
theorem dX9_does_153 : decode cX9_does 153 = .ok (.iload 4, 2) := by decide +kernel
theorem dX9_does_155 : decode cX9_does 155 = .ok (.iaload, 1) := by decide +kernel
theorem dX9_does_156 : decode cX9_does 156 = .ok (.iadd, 1) := by decide +kernel
theorem dX9_does_157 : decode cX9_does 157 = .ok (.dup2, 1) := by decide +kernel
theorem dX9_does_158 : decode cX9_does 158 = .ok (.laload, 1) := by decide +kernel
theorem dX9_does_159 : decode cX9_does 159 = .ok (.aload_n 0, 1) := by decide +kernel
theorem dX9_does_160 : decode cX9_does 160 = .ok (.getfield 87, 3) := by decide +kernel
theorem dX9_does_163 : decode cX9_does 163 = .ok (.iload 4, 2) := by decide +kernel
theorem dX9_does_165 : decode cX9_does 165 = .ok (.laload, 1) := by decide +kernel
theorem dX9_does_166 : decode cX9_does 166 = .ok (.ladd, 1) := by decide +kernel
theorem dX9_does_167 : decode cX9_does 167 = .ok (.lastore, 1) := by decide +kernel
theorem dX9_does_168 : decode cX9_does 168 = .ok (.iinc 4 1, 3) := by decide +kernel
theorem dX9_does_171 : decode cX9_does 171 = .ok (.goto (-77), 3) := by decide +kernel
theorem dX9_does_174 : decode cX9_does 174 = .ok (.aload_n 0, 1) := by decide +kernel
theorem dX9_does_175 : decode cX9_does 175 = .ok (.getfield 217, 3) := by decide +kernel
theorem dX9_does_178 : decode cX9_does 178 = .ok (.iconst 3, 1) := by decide +kernel
theorem dX9_does_179 : decode cX9_does 179 = .ok (.if_icmp .ne 17, 3) := by decide +kernel
theorem dX9_does_182 : decode cX9_does 182 = .ok (.aload_n 0, 1) := by decide +kernel
theorem dX9_does_183 : decode cX9_does 183 = .ok (.iload_n 1, 1) := by decide +kernel
theorem dX9_does_184 : decode cX9_does 184 = .ok (.aload_n 0, 1) := by decide +kernel
theorem dX9_does_185 : decode cX9_does 185 = .ok (.getfield 231, 3) := by decide +kernel
theorem dX9_does_188 : decode cX9_does 188 = .ok (.aload_n 0, 1) := by decide +kernel
theorem dX9_does_189 : decode cX9_does 189 = .ok (.getfield 234, 3) := by decide +kernel
theorem dX9_does_192 : decode cX9_does 192 = .ok (.iconst 1, 1) := by decide +kernel
theorem dX9_does_193 : decode cX9_does 193 = .ok (.invokevirtual 277, 3) := by decide +kernel
theorem dX9_does_196 : decode cX9_does 196 = .ok (.sipush 200, 3) := by decide +kernel
theorem dX9_does_199 : decode cX9_does 199 = .ok (.iload_n 1, 1) := by decide +kernel
theorem dX9_does_200 : decode cX9_does 200 = .ok (.imul, 1) := by decide +kernel
theorem dX9_does_201 : decode cX9_does 201 = .ok (.aload_n 0, 1) := by decide +kernel
theorem dX9_does_202 : decode cX9_does 202 = .ok (.getfield 228, 3) := by decide +kernel
theorem dX9_does_205 : decode cX9_does 205 = .ok (.iadd, 1) := by decide +kernel
theorem dX9_does_206 : decode cX9_does 206 = .ok (.istore 4, 2) := by decide +kernel
theorem dX9_does_208 : decode cX9_does 208 = .ok (.aload_n 0, 1) := by decide +kernel
theorem dX9_does_209 : decode cX9_does 209 = .ok (.getfield 217, 3) := by decide +kernel
theorem dX9_does_212 : decode cX9_does 212 = .ok (.iconst 4, 1) := by decide +kernel
theorem dX9_does_213 : decode cX9_does 213 = .ok (.if_icmp .eq 11, 3) := by decide +kernel
theorem dX9_does_216 : decode cX9_does 216 = .ok (.aload_n 0, 1) := by decide +kernel
theorem dX9_does_217 : decode cX9_does 217 = .ok (.getfield 217, 3) := by decide +kernel
theorem dX9_does_220 : decode cX9_does 220 = .ok (.iconst 5, 1) := by decide +kernel
theorem dX9_does_221 : decode cX9_does 221 = .ok (.if_icmp .ne 31, 3) := by decide +kernel
theorem dX9_does_224 : decode cX9_does 224 = .ok (.aload_n 0, 1) := by decide +kernel
theorem dX9_does_225 : decode cX9_does 225 = .ok (.iload_n 1, 1) := by decide +kernel
theorem dX9_does_226 : decode cX9_does 226 = .ok (.aload_n 0, 1) := by decide +kernel
theorem dX9_does_227 : decode cX9_does 227 = .ok (.getfield 54, 3) := by decide +kernel
theorem dX9_does_230 : decode cX9_does 230 = .ok (.iload 4, 2) := by decide +kernel
theorem dX9_does_232 : decode cX9_does 232 = .ok (.iaload, 1) := by decide +kernel
theorem dX9_does_233 : decode cX9_does 233 = .ok (.aload_n 0, 1) := by decide +kernel
theorem dX9_does_234 : decode cX9_does 234 = .ok (.getfield 57, 3) := by decide +kernel
theorem dX9_does_237 : decode cX9_does 237 = .ok (.iload 4, 2) := by decide +kernel
theorem dX9_does_239 : decode cX9_does 239 = .ok (.laload, 1) := by decide +kernel
theorem dX9_does_240 : decode cX9_does 240 = .ok (.iconst (-1), 1) := by decide +kernel
theorem dX9_does_241 : decode cX9_does 241 = .ok (.invokevirtual 277, 3) := by decide +kernel
theorem dX9_does_244 : decode cX9_does 244 = .ok (.aload_n 0, 1) := by decide +kernel
theorem dX9_does_245 : decode cX9_does 245 = .ok (.getfield 60, 3) := by decide +kernel
theorem dX9_does_248 : decode cX9_does 248 = .ok (.iload 4, 2) := by decide +kernel
theorem dX9_does_250 : decode cX9_does 250 = .ok (.iconst 0, 1) := by decide +kernel
theorem dX9_does_251 : decode cX9_does 251 = .ok (.bastore, 1) := by decide +kernel
theorem dX9_does_252 : decode cX9_does 252 = .ok (.aload_n 0, 1) := by decide +kernel
theorem dX9_does_253 : decode cX9_does 253 = .ok (.getfield 217, 3) := by decide +kernel
theorem dX9_does_256 : decode cX9_does 256 = .ok (.iconst 4, 1) := by decide +kernel
theorem dX9_does_257 : decode cX9_does 257 = .ok (.if_icmp .eq 20, 3) := by decide +kernel
theorem dX9_does_260 : decode cX9_does 260 = .ok (.aload_n 0, 1) := by decide +kernel
theorem dX9_does_261 : decode cX9_does 261 = .ok (.getfield 217, 3) := by decide +kernel
theorem dX9_does_264 : decode cX9_does 264 = .ok (.iconst 5, 1) := by decide +kernel
theorem dX9_does_265 : decode cX9_does 265 = .ok (.if_icmp .eq 12, 3) := by decide +kernel
theorem dX9_does_268 : decode cX9_does 268 = .ok (.aload_n 0, 1) := by decide +kernel
theorem dX9_does_269 : decode cX9_does 269 = .ok (.getfield 217, 3) := by decide +kernel
theorem dX9_does_272 : decode cX9_does 272 = .ok (.bipush 6, 2) := by decide +kernel
theorem dX9_does_274 : decode cX9_does 274 = .ok (.if_icmp .ne 11, 3) := by decide +kernel
theorem dX9_does_277 : decode cX9_does 277 = .ok (.aload_n 0, 1) := by decide +kernel
theorem dX9_does_278 : decode cX9_does 278 = .ok (.getfield 63, 3) := by decide +kernel
theorem dX9_does_281 : decode cX9_does 281 = .ok (.iload 4, 2) := by decide +kernel
theorem dX9_does_283 : decode cX9_does 283 = .ok (.iload_n 2, 1) := by decide +kernel
theorem dX9_does_284 : decode cX9_does 284 = .ok (.iastore, 1) := by decide +kernel
theorem dX9_does_285 : decode cX9_does 285 = .ok (.aload_n 0, 1) := by decide +kernel
theorem dX9_does_286 : decode cX9_does 286 = .ok (.getfield 217, 3) := by decide +kernel
theorem dX9_does_289 : decode cX9_does 289 = .ok (.iconst 1, 1) := by decide +kernel
theorem dX9_does_290 : decode cX9_does 290 = .ok (.if_icmp .ne 84, 3) := by decide +kernel
theorem dX9_does_293 : decode cX9_does 293 = .ok (.aload_n 0, 1) := by decide +kernel
theorem dX9_does_294 : decode cX9_does 294 = .ok (.getfield 26, 3) := by decide +kernel
theorem dX9_does_297 : decode cX9_does 297 = .ok (.bipush 40, 2) := by decide +kernel
theorem dX9_does_299 : decode cX9_does 299 = .ok (.iload_n 1, 1) := by decide +kernel
theorem dX9_does_300 : decode cX9_does 300 = .ok (.imul, 1) := by decide +kernel
theorem dX9_does_301 : decode cX9_does 301 = .ok (.aload_n 0, 1) := by decide +kernel
theorem dX9_does_302 : decode cX9_does 302 = .ok (.getfield 7, 3) := by decide +kernel
theorem dX9_does_305 : decode cX9_does 305 = .ok (.iload_n 1, 1) := by decide +kernel
theorem dX9_does_306 : decode cX9_does 306 = .ok (.iaload, 1) := by decide +kernel
theorem dX9_does_307 : decode cX9_does 307 = .ok (.iadd, 1) := by decide +kernel
theorem dX9_does_308 : decode cX9_does 308 = .ok (.aload_n 0, 1) := by decide +kernel
theorem dX9_does_309 : decode cX9_does 309 = .ok (.getfield 234, 3) := by decide +kernel
theorem dX9_does_312 : decode cX9_does 312 = .ok (.lastore, 1) := by decide +kernel
theorem dX9_does_313 : decode cX9_does 313 = .ok (.aload_n 0, 1) := by decide +kernel
theorem dX9_does_314 : decode cX9_does 314 = .ok (.getfield 30, 3) := by decide +kernel
theorem dX9_does_317 : decode cX9_does 317 = .ok (.bipush 40, 2) := by decide +kernel
theorem dX9_does_319 : decode cX9_does 319 = .ok (.iload_n 1, 1) := by decide +kernel
theorem dX9_does_320 : decode cX9_does 320 = .ok (.imul, 1) := by decide +kernel
theorem dX9_does_321 : decode cX9_does 321 = .ok (.aload_n 0, 1) := by decide +kernel
theorem dX9_does_322 : decode cX9_does 322 = .ok (.getfield 7, 3) := by decide +kernel
theorem dX9_does_325 : decode cX9_does 325 = .ok (.iload_n 1, 1) := by decide +kernel
theorem dX9_does_326 : decode cX9_does 326 = .ok (.iaload, 1) := by decide +kernel
theorem dX9_does_327 : decode cX9_does 327 = .ok (.iadd, 1) := by decide +kernel
theorem dX9_does_328 : decode cX9_does 328 = .ok (.lconst 0, 1) := by decide +kernel
theorem dX9_does_329 : decode cX9_does 329 = .ok (.lastore, 1) := by decide +kernel
theorem dX9_does_330 : decode cX9_does 330 = .ok (.aload_n 0, 1) := by decide +kernel
theorem dX9_does_331 : decode cX9_does 331 = .ok (.getfield 33, 3) := by decide +kernel
theorem dX9_does_334 : decode cX9_does 334 = .ok (.bipush 40, 2) := by decide +kernel
theorem dX9_does_336 : decode cX9_does 336 = .ok (.iload_n 1, 1) := by decide +kernel
theorem dX9_does_337 : decode cX9_does 337 = .ok (.imul, 1) := by decide +kernel
theorem dX9_does_338 : decode cX9_does 338 = .ok (.aload_n 0, 1) := by decide +kernel
theorem dX9_does_339 : decode cX9_does 339 = .ok (.getfield 7, 3) := by decide +kernel
theorem dX9_does_342 : decode cX9_does 342 = .ok (.iload_n 1, 1) := by decide +kernel
theorem dX9_does_343 : decode cX9_does 343 = .ok (.iaload, 1) := by decide +kernel
theorem dX9_does_344 : decode cX9_does 344 = .ok (.iadd, 1) := by decide +kernel
theorem dX9_does_345 : decode cX9_does 345 = .ok (.lconst 0, 1) := by decide +kernel
theorem dX9_does_346 : decode cX9_does 346 = .ok (.lastore, 1) := by decide +kernel
theorem dX9_does_347 : decode cX9_does 347 = .ok (.aload_n 0, 1) := by decide +kernel
theorem dX9_does_348 : decode cX9_does 348 = .ok (.getfield 36, 3) := by decide +kernel
theorem dX9_does_351 : decode cX9_does 351 = .ok (.bipush 40, 2) := by decide +kernel
theorem dX9_does_353 : decode cX9_does 353 = .ok (.iload_n 1, 1) := by decide +kernel
theorem dX9_does_354 : decode cX9_does 354 = .ok (.imul, 1) := by decide +kernel
theorem dX9_does_355 : decode cX9_does 355 = .ok (.aload_n 0, 1) := by decide +kernel
theorem dX9_does_356 : decode cX9_does 356 = .ok (.getfield 7, 3) := by decide +kernel
theorem dX9_does_359 : decode cX9_does 359 = .ok (.iload_n 1, 1) := by decide +kernel
theorem dX9_does_360 : decode cX9_does 360 = .ok (.iaload, 1) := by decide +kernel
theorem dX9_does_361 : decode cX9_does 361 = .ok (.iadd, 1) := by decide +kernel
theorem dX9_does_362 : decode cX9_does 362 = .ok (.lconst 0, 1) := by decide +kernel
theorem dX9_does_363 : decode cX9_does 363 = .ok (.lastore, 1) := by decide +kernel
theorem dX9_does_364 : decode cX9_does 364 = .ok (.aload_n 0, 1) := by decide +kernel
theorem dX9_does_365 : decode cX9_does 365 = .ok (.getfield 7, 3) := by decide +kernel
theorem dX9_does_368 : decode cX9_does 368 = .ok (.iload_n 1, 1) := by decide +kernel
theorem dX9_does_369 : decode cX9_does 369 = .ok (.dup2, 1) := by decide +kernel
theorem dX9_does_370 : decode cX9_does 370 = .ok (.iaload, 1) := by decide +kernel
theorem dX9_does_371 : decode cX9_does 371 = .ok (.iconst 1, 1) := by decide +kernel
theorem dX9_does_372 : decode cX9_does 372 = .ok (.iadd, 1) := by decide +kernel
theorem dX9_does_373 : decode cX9_does 373 = .ok (.iastore, 1) := by decide +kernel
theorem dX9_does_374 : decode cX9_does 374 = .ok (.aload_n 0, 1) := by decide +kernel
theorem dX9_does_375 : decode cX9_does 375 = .ok (.getfield 13, 3) := by decide +kernel
theorem dX9_does_378 : decode cX9_does 378 = .ok (.iload_n 1, 1) := by decide +kernel
theorem dX9_does_379 : decode cX9_does 379 = .ok (.dup2, 1) := by decide +kernel
theorem dX9_does_380 : decode cX9_does 380 = .ok (.iaload, 1) := by decide +kernel
theorem dX9_does_381 : decode cX9_does 381 = .ok (.iconst 1, 1) := by decide +kernel
theorem dX9_does_382 : decode cX9_does 382 = .ok (.iadd, 1) := by decide +kernel
theorem dX9_does_383 : decode cX9_does 383 = .ok (.iastore, 1) := by decide +kernel
theorem dX9_does_384 : decode cX9_does 384 = .ok (.aload_n 0, 1) := by decide +kernel
theorem dX9_does_385 : decode cX9_does 385 = .ok (.getfield 217, 3) := by decide +kernel
theorem dX9_does_388 : decode cX9_does 388 = .ok (.iconst 2, 1) := by decide +kernel
theorem dX9_does_389 : decode cX9_does 389 = .ok (.if_icmp .eq 20, 3) := by decide +kernel
theorem dX9_does_392 : decode cX9_does 392 = .ok (.aload_n 0, 1) := by decide +kernel
theorem dX9_does_393 : decode cX9_does 393 = .ok (.getfield 217, 3) := by decide +kernel
theorem dX9_does_396 : decode cX9_does 396 = .ok (.iconst 5, 1) := by decide +kernel
theorem dX9_does_397 : decode cX9_does 397 = .ok (.if_icmp .eq 12, 3) := by decide +kernel
theorem dX9_does_400 : decode cX9_does 400 = .ok (.aload_n 0, 1) := by decide +kernel
theorem dX9_does_401 : decode cX9_does 401 = .ok (.getfield 217, 3) := by decide +kernel
theorem dX9_does_404 : decode cX9_does 404 = .ok (.bipush 6, 2) := by decide +kernel
theorem dX9_does_406 : decode cX9_does 406 = .ok (.if_icmp .ne 13, 3) := by decide +kernel
theorem dX9_does_409 : decode cX9_does 409 = .ok (.aload_n 0, 1) := by decide +kernel
theorem dX9_does_410 : decode cX9_does 410 = .ok (.getfield 19, 3) := by decide +kernel
theorem dX9_does_413 : decode cX9_does 413 = .ok (.iload_n 1, 1) := by decide +kernel
theorem dX9_does_414 : decode cX9_does 414 = .ok (.dup2, 1) := by decide +kernel
theorem dX9_does_415 : decode cX9_does 415 = .ok (.iaload, 1) := by decide +kernel
theorem dX9_does_416 : decode cX9_does 416 = .ok (.iconst 1, 1) := by decide +kernel
theorem dX9_does_417 : decode cX9_does 417 = .ok (.iadd, 1) := by decide +kernel
theorem dX9_does_418 : decode cX9_does 418 = .ok (.iastore, 1) := by decide +kernel
theorem dX9_does_419 : decode cX9_does 419 = .ok (.aload_n 0, 1) := by decide +kernel
theorem dX9_does_420 : decode cX9_does 420 = .ok (.getfield 217, 3) := by decide +kernel
theorem dX9_does_423 : decode cX9_does 423 = .ok (.bipush 7, 2) := by decide +kernel
theorem dX9_does_425 : decode cX9_does 425 = .ok (.if_icmp .ne 10, 3) := by decide +kernel
theorem dX9_does_428 : decode cX9_does 428 = .ok (.aload_n 0, 1) := by decide +kernel
theorem dX9_does_429 : decode cX9_does 429 = .ok (.getfield 19, 3) := by decide +kernel
theorem dX9_does_432 : decode cX9_does 432 = .ok (.iload_n 1, 1) := by decide +kernel
theorem dX9_does_433 : decode cX9_does 433 = .ok (.iconst 0, 1) := by decide +kernel
theorem dX9_does_434 : decode cX9_does 434 = .ok (.iastore, 1) := by decide +kernel
theorem dX9_does_435 : decode cX9_does 435 = .ok (.aload_n 0, 1) := by decide +kernel
theorem dX9_does_436 : decode cX9_does 436 = .ok (.getfield 22, 3) := by decide +kernel
theorem dX9_does_439 : decode cX9_does 439 = .ok (.iload_n 1, 1) := by decide +kernel
theorem dX9_does_440 : decode cX9_does 440 = .ok (.aload_n 0, 1) := by decide +kernel
theorem dX9_does_441 : decode cX9_does 441 = .ok (.getfield 16, 3) := by decide +kernel
theorem dX9_does_444 : decode cX9_does 444 = .ok (.iload_n 1, 1) := by decide +kernel
theorem dX9_does_445 : decode cX9_does 445 = .ok (.iaload, 1) := by decide +kernel
theorem dX9_does_446 : decode cX9_does 446 = .ok (.ifCond .le 34, 3) := by decide +kernel
theorem dX9_does_449 : decode cX9_does 449 = .ok (.aload_n 0, 1) := by decide +kernel
theorem dX9_does_450 : decode cX9_does 450 = .ok (.getfield 19, 3) := by decide +kernel
theorem dX9_does_453 : decode cX9_does 453 = .ok (.iload_n 1, 1) := by decide +kernel
theorem dX9_does_454 : decode cX9_does 454 = .ok (.iaload, 1) := by decide +kernel
theorem dX9_does_455 : decode cX9_does 455 = .ok (.aload_n 0, 1) := by decide +kernel
theorem dX9_does_456 : decode cX9_does 456 = .ok (.getfield 16, 3) := by decide +kernel
theorem dX9_does_459 : decode cX9_does 459 = .ok (.iload_n 1, 1) := by decide +kernel
theorem dX9_does_460 : decode cX9_does 460 = .ok (.iaload, 1) := by decide +kernel
theorem dX9_does_461 : decode cX9_does 461 = .ok (.if_icmp .lt 19, 3) := by decide +kernel
theorem dX9_does_464 : decode cX9_does 464 = .ok (.aload_n 0, 1) := by decide +kernel
theorem dX9_does_465 : decode cX9_does 465 = .ok (.getfield 13, 3) := by decide +kernel
theorem dX9_does_468 : decode cX9_does 468 = .ok (.iload_n 1, 1) := by decide +kernel
theorem dX9_does_469 : decode cX9_does 469 = .ok (.iaload, 1) := by decide +kernel
theorem dX9_does_470 : decode cX9_does 470 = .ok (.sipush 200, 3) := by decide +kernel
theorem dX9_does_473 : decode cX9_does 473 = .ok (.if_icmp .ge 7, 3) := by decide +kernel
theorem dX9_does_476 : decode cX9_does 476 = .ok (.iconst 1, 1) := by decide +kernel
theorem dX9_does_477 : decode cX9_does 477 = .ok (.goto 4, 3) := by decide +kernel
theorem dX9_does_480 : decode cX9_does 480 = .ok (.iconst 0, 1) := by decide +kernel
theorem dX9_does_481 : decode cX9_does 481 = .ok (.bastore, 1) := by decide +kernel
theorem dX9_does_482 : decode cX9_does 482 = .ok (.iload_n 2, 1) := by decide +kernel
theorem dX9_does_483 : decode cX9_does 483 = .ok (.ireturn, 1) := by decide +kernel
theorem dX9_trial_0 : decode cX9_trial 0 = .ok (.aload_n 0, 1) := by decide +kernel
theorem dX9_trial_1 : decode cX9_trial 1 = .ok (.bipush 7, 2) := by decide +kernel
theorem dX9_trial_3 : decode cX9_trial 3 = .ok (.lconst 0, 1) := by decide +kernel
theorem dX9_trial_4 : decode cX9_trial 4 = .ok (.invokevirtual 281, 3) := by decide +kernel
theorem dX9_trial_7 : decode cX9_trial 7 = .ok (.aload_n 0, 1) := by decide +kernel
theorem dX9_trial_8 : decode cX9_trial 8 = .ok (.aload_n 0, 1) := by decide +kernel
theorem dX9_trial_9 : decode cX9_trial 9 = .ok (.getfield 7, 3) := by decide +kernel
theorem dX9_trial_12 : decode cX9_trial 12 = .ok (.iload_n 1, 1) := by decide +kernel
theorem dX9_trial_13 : decode cX9_trial 13 = .ok (.iaload, 1) := by decide +kernel
theorem dX9_trial_14 : decode cX9_trial 14 = .ok (.invokevirtual 240, 3) := by decide +kernel
theorem dX9_trial_17 : decode cX9_trial 17 = .ok (.lconst 0, 1) := by decide +kernel
theorem dX9_trial_18 : decode cX9_trial 18 = .ok (.lstore_n 2, 1) := by decide +kernel
theorem dX9_trial_19 : decode cX9_trial 19 = .ok (.lconst 0, 1) := by decide +kernel
theorem dX9_trial_20 : decode cX9_trial 20 = .ok (.lstore 4, 2) := by decide +kernel
theorem dX9_trial_22 : decode cX9_trial 22 = .ok (.iconst 0, 1) := by decide +kernel
theorem dX9_trial_23 : decode cX9_trial 23 = .ok (.istore 6, 2) := by decide +kernel
theorem dX9_trial_25 : decode cX9_trial 25 = .ok (.iload 6, 2) := by decide +kernel
theorem dX9_trial_27 : decode cX9_trial 27 = .ok (.aload_n 0, 1) := by decide +kernel
theorem dX9_trial_28 : decode cX9_trial 28 = .ok (.getfield 7, 3) := by decide +kernel
theorem dX9_trial_31 : decode cX9_trial 31 = .ok (.iload_n 1, 1) := by decide +kernel
theorem dX9_trial_32 : decode cX9_trial 32 = .ok (.iaload, 1) := by decide +kernel
theorem dX9_trial_33 : decode cX9_trial 33 = .ok (.if_icmp .ge 52, 3) := by decide +kernel
theorem dX9_trial_36 : decode cX9_trial 36 = .ok (.aload_n 0, 1) := by decide +kernel
theorem dX9_trial_37 : decode cX9_trial 37 = .ok (.getfield 30, 3) := by decide +kernel
theorem dX9_trial_40 : decode cX9_trial 40 = .ok (.bipush 40, 2) := by decide +kernel
theorem dX9_trial_42 : decode cX9_trial 42 = .ok (.iload_n 1, 1) := by decide +kernel
theorem dX9_trial_43 : decode cX9_trial 43 = .ok (.imul, 1) := by decide +kernel
theorem dX9_trial_44 : decode cX9_trial 44 = .ok (.iload 6, 2) := by decide +kernel
theorem dX9_trial_46 : decode cX9_trial 46 = .ok (.iadd, 1) := by decide +kernel
theorem dX9_trial_47 : decode cX9_trial 47 = .ok (.laload, 1) := by decide +kernel
theorem dX9_trial_48 : decode cX9_trial 48 = .ok (.lstore 7, 2) := by decide +kernel
theorem dX9_trial_50 : decode cX9_trial 50 = .ok (.lload 7, 2) := by decide +kernel
theorem dX9_trial_52 : decode cX9_trial 52 = .ok (.lconst 0, 1) := by decide +kernel
theorem dX9_trial_53 : decode cX9_trial 53 = .ok (.lcmp, 1) := by decide +kernel
theorem dX9_trial_54 : decode cX9_trial 54 = .ok (.ifCond .gt 6, 3) := by decide +kernel
theorem dX9_trial_57 : decode cX9_trial 57 = .ok (.goto 22, 3) := by decide +kernel
theorem dX9_trial_60 : decode cX9_trial 60 = .ok (.lload_n 2, 1) := by decide +kernel
theorem dX9_trial_61 : decode cX9_trial 61 = .ok (.lload 7, 2) := by decide +kernel
theorem dX9_trial_63 : decode cX9_trial 63 = .ok (.bipush 32, 2) := by decide +kernel
theorem dX9_trial_65 : decode cX9_trial 65 = .ok (.lshr, 1) := by decide +kernel
theorem dX9_trial_66 : decode cX9_trial 66 = .ok (.ladd, 1) := by decide +kernel
theorem dX9_trial_67 : decode cX9_trial 67 = .ok (.lstore_n 2, 1) := by decide +kernel
theorem dX9_trial_68 : decode cX9_trial 68 = .ok (.lload 4, 2) := by decide +kernel
theorem dX9_trial_70 : decode cX9_trial 70 = .ok (.lload 7, 2) := by decide +kernel
theorem dX9_trial_72 : decode cX9_trial 72 = .ok (.ldc2_w 261, 3) := by decide +kernel
theorem dX9_trial_75 : decode cX9_trial 75 = .ok (.land, 1) := by decide +kernel
theorem dX9_trial_76 : decode cX9_trial 76 = .ok (.ladd, 1) := by decide +kernel
theorem dX9_trial_77 : decode cX9_trial 77 = .ok (.lstore 4, 2) := by decide +kernel
theorem dX9_trial_79 : decode cX9_trial 79 = .ok (.iinc 6 1, 3) := by decide +kernel
theorem dX9_trial_82 : decode cX9_trial 82 = .ok (.goto (-57), 3) := by decide +kernel
theorem dX9_trial_85 : decode cX9_trial 85 = .ok (.lload_n 2, 1) := by decide +kernel
theorem dX9_trial_86 : decode cX9_trial 86 = .ok (.lload 4, 2) := by decide +kernel
theorem dX9_trial_88 : decode cX9_trial 88 = .ok (.bipush 32, 2) := by decide +kernel
theorem dX9_trial_90 : decode cX9_trial 90 = .ok (.lshr, 1) := by decide +kernel
theorem dX9_trial_91 : decode cX9_trial 91 = .ok (.ladd, 1) := by decide +kernel
theorem dX9_trial_92 : decode cX9_trial 92 = .ok (.lstore_n 2, 1) := by decide +kernel
theorem dX9_trial_93 : decode cX9_trial 93 = .ok (.lload 4, 2) := by decide +kernel
theorem dX9_trial_95 : decode cX9_trial 95 = .ok (.ldc2_w 261, 3) := by decide +kernel
theorem dX9_trial_98 : decode cX9_trial 98 = .ok (.land, 1) := by decide +kernel
theorem dX9_trial_99 : decode cX9_trial 99 = .ok (.lstore 4, 2) := by decide +kernel
theorem dX9_trial_101 : decode cX9_trial 101 = .ok (.iconst 0, 1) := by decide +kernel
theorem dX9_trial_102 : decode cX9_trial 102 = .ok (.istore 6, 2) := by decide +kernel
theorem dX9_trial_104 : decode cX9_trial 104 = .ok (.iload 6, 2) := by decide +kernel
theorem dX9_trial_106 : decode cX9_trial 106 = .ok (.iconst 4, 1) := by decide +kernel
theorem dX9_trial_107 : decode cX9_trial 107 = .ok (.if_icmp .ge 14, 3) := by decide +kernel
theorem dX9_trial_110 : decode cX9_trial 110 = .ok (.aload_n 0, 1) := by decide +kernel
theorem dX9_trial_111 : decode cX9_trial 111 = .ok (.iconst 0, 1) := by decide +kernel
theorem dX9_trial_112 : decode cX9_trial 112 = .ok (.invokevirtual 240, 3) := by decide +kernel
theorem dX9_trial_115 : decode cX9_trial 115 = .ok (.iinc 6 1, 3) := by decide +kernel
theorem dX9_trial_118 : decode cX9_trial 118 = .ok (.goto (-14), 3) := by decide +kernel
theorem dX9_trial_121 : decode cX9_trial 121 = .ok (.aload_n 0, 1) := by decide +kernel
theorem dX9_trial_122 : decode cX9_trial 122 = .ok (.lload_n 2, 1) := by decide +kernel
theorem dX9_trial_123 : decode cX9_trial 123 = .ok (.invokevirtual 244, 3) := by decide +kernel
theorem dX9_trial_126 : decode cX9_trial 126 = .ok (.bipush 24, 2) := by decide +kernel
theorem dX9_trial_128 : decode cX9_trial 128 = .ok (.istore 6, 2) := by decide +kernel
theorem dX9_trial_130 : decode cX9_trial 130 = .ok (.iload 6, 2) := by decide +kernel
theorem dX9_trial_132 : decode cX9_trial 132 = .ok (.ifCond .lt 23, 3) := by decide +kernel
theorem dX9_trial_135 : decode cX9_trial 135 = .ok (.aload_n 0, 1) := by decide +kernel
theorem dX9_trial_136 : decode cX9_trial 136 = .ok (.lload 4, 2) := by decide +kernel
theorem dX9_trial_138 : decode cX9_trial 138 = .ok (.iload 6, 2) := by decide +kernel
theorem dX9_trial_140 : decode cX9_trial 140 = .ok (.lshr, 1) := by decide +kernel
theorem dX9_trial_141 : decode cX9_trial 141 = .ok (.ldc2_w 248, 3) := by decide +kernel
theorem dX9_trial_144 : decode cX9_trial 144 = .ok (.land, 1) := by decide +kernel
theorem dX9_trial_145 : decode cX9_trial 145 = .ok (.l2i, 1) := by decide +kernel
theorem dX9_trial_146 : decode cX9_trial 146 = .ok (.invokevirtual 240, 3) := by decide +kernel
theorem dX9_trial_149 : decode cX9_trial 149 = .ok (.iinc 6 (-8), 3) := by decide +kernel
theorem dX9_trial_152 : decode cX9_trial 152 = .ok (.goto (-22), 3) := by decide +kernel
theorem dX9_trial_155 : decode cX9_trial 155 = .ok (.return_, 1) := by decide +kernel
theorem dX9_writes_0 : decode cX9_writes 0 = .ok (.aload_n 0, 1) := by decide +kernel
theorem dX9_writes_1 : decode cX9_writes 1 = .ok (.getfield 13, 3) := by decide +kernel
theorem dX9_writes_4 : decode cX9_writes 4 = .ok (.iconst 0, 1) := by decide +kernel
theorem dX9_writes_5 : decode cX9_writes 5 = .ok (.iaload, 1) := by decide +kernel
theorem dX9_writes_6 : decode cX9_writes 6 = .ok (.istore_n 1, 1) := by decide +kernel
theorem dX9_writes_7 : decode cX9_writes 7 = .ok (.aload_n 0, 1) := by decide +kernel
theorem dX9_writes_8 : decode cX9_writes 8 = .ok (.getfield 72, 3) := by decide +kernel
theorem dX9_writes_11 : decode cX9_writes 11 = .ok (.iload_n 1, 1) := by decide +kernel
theorem dX9_writes_12 : decode cX9_writes 12 = .ok (.aload_n 0, 1) := by decide +kernel
theorem dX9_writes_13 : decode cX9_writes 13 = .ok (.getfield 285, 3) := by decide +kernel
theorem dX9_writes_16 : decode cX9_writes 16 = .ok (.iastore, 1) := by decide +kernel
theorem dX9_writes_17 : decode cX9_writes 17 = .ok (.aload_n 0, 1) := by decide +kernel
theorem dX9_writes_18 : decode cX9_writes 18 = .ok (.getfield 75, 3) := by decide +kernel
theorem dX9_writes_21 : decode cX9_writes 21 = .ok (.iload_n 1, 1) := by decide +kernel
theorem dX9_writes_22 : decode cX9_writes 22 = .ok (.aload_n 0, 1) := by decide +kernel
theorem dX9_writes_23 : decode cX9_writes 23 = .ok (.getfield 237, 3) := by decide +kernel
theorem dX9_writes_26 : decode cX9_writes 26 = .ok (.iastore, 1) := by decide +kernel
theorem dX9_writes_27 : decode cX9_writes 27 = .ok (.iconst 0, 1) := by decide +kernel
theorem dX9_writes_28 : decode cX9_writes 28 = .ok (.istore_n 2, 1) := by decide +kernel
theorem dX9_writes_29 : decode cX9_writes 29 = .ok (.iload_n 2, 1) := by decide +kernel
theorem dX9_writes_30 : decode cX9_writes 30 = .ok (.aload_n 0, 1) := by decide +kernel
theorem dX9_writes_31 : decode cX9_writes 31 = .ok (.getfield 237, 3) := by decide +kernel
theorem dX9_writes_34 : decode cX9_writes 34 = .ok (.if_icmp .ge 49, 3) := by decide +kernel
theorem dX9_writes_37 : decode cX9_writes 37 = .ok (.aload_n 0, 1) := by decide +kernel
theorem dX9_writes_38 : decode cX9_writes 38 = .ok (.getfield 66, 3) := by decide +kernel
theorem dX9_writes_41 : decode cX9_writes 41 = .ok (.aload_n 0, 1) := by decide +kernel
theorem dX9_writes_42 : decode cX9_writes 42 = .ok (.getfield 285, 3) := by decide +kernel
theorem dX9_writes_45 : decode cX9_writes 45 = .ok (.aload_n 0, 1) := by decide +kernel
theorem dX9_writes_46 : decode cX9_writes 46 = .ok (.getfield 90, 3) := by decide +kernel
theorem dX9_writes_49 : decode cX9_writes 49 = .ok (.iload_n 2, 1) := by decide +kernel
theorem dX9_writes_50 : decode cX9_writes 50 = .ok (.iaload, 1) := by decide +kernel
theorem dX9_writes_51 : decode cX9_writes 51 = .ok (.iastore, 1) := by decide +kernel
theorem dX9_writes_52 : decode cX9_writes 52 = .ok (.aload_n 0, 1) := by decide +kernel
theorem dX9_writes_53 : decode cX9_writes 53 = .ok (.getfield 69, 3) := by decide +kernel
theorem dX9_writes_56 : decode cX9_writes 56 = .ok (.aload_n 0, 1) := by decide +kernel
theorem dX9_writes_57 : decode cX9_writes 57 = .ok (.getfield 285, 3) := by decide +kernel
theorem dX9_writes_60 : decode cX9_writes 60 = .ok (.aload_n 0, 1) := by decide +kernel
theorem dX9_writes_61 : decode cX9_writes 61 = .ok (.getfield 90, 3) := by decide +kernel
theorem dX9_writes_64 : decode cX9_writes 64 = .ok (.iload_n 2, 1) := by decide +kernel
theorem dX9_writes_65 : decode cX9_writes 65 = .ok (.iaload, 1) := by decide +kernel
theorem dX9_writes_66 : decode cX9_writes 66 = .ok (.iastore, 1) := by decide +kernel
theorem dX9_writes_67 : decode cX9_writes 67 = .ok (.aload_n 0, 1) := by decide +kernel
theorem dX9_writes_68 : decode cX9_writes 68 = .ok (.dup, 1) := by decide +kernel
theorem dX9_writes_69 : decode cX9_writes 69 = .ok (.getfield 285, 3) := by decide +kernel
theorem dX9_writes_72 : decode cX9_writes 72 = .ok (.iconst 1, 1) := by decide +kernel
theorem dX9_writes_73 : decode cX9_writes 73 = .ok (.iadd, 1) := by decide +kernel
theorem dX9_writes_74 : decode cX9_writes 74 = .ok (.putfield 285, 3) := by decide +kernel
theorem dX9_writes_77 : decode cX9_writes 77 = .ok (.iinc 2 1, 3) := by decide +kernel
theorem dX9_writes_80 : decode cX9_writes 80 = .ok (.goto (-51), 3) := by decide +kernel
theorem dX9_writes_83 : decode cX9_writes 83 = .ok (.return_, 1) := by decide +kernel
theorem dX9_calls_0 : decode cX9_calls 0 = .ok (.aload_n 0, 1) := by decide +kernel
theorem dX9_calls_1 : decode cX9_calls 1 = .ok (.iconst 0, 1) := by decide +kernel
theorem dX9_calls_2 : decode cX9_calls 2 = .ok (.aload_n 0, 1) := by decide +kernel
theorem dX9_calls_3 : decode cX9_calls 3 = .ok (.getfield 221, 3) := by decide +kernel
theorem dX9_calls_6 : decode cX9_calls 6 = .ok (.invokevirtual 288, 3) := by decide +kernel
theorem dX9_calls_9 : decode cX9_calls 9 = .ok (.istore_n 1, 1) := by decide +kernel
theorem dX9_calls_10 : decode cX9_calls 10 = .ok (.iload_n 1, 1) := by decide +kernel
theorem dX9_calls_11 : decode cX9_calls 11 = .ok (.iconst (-1), 1) := by decide +kernel
theorem dX9_calls_12 : decode cX9_calls 12 = .ok (.if_icmp .eq 18, 3) := by decide +kernel
theorem dX9_calls_15 : decode cX9_calls 15 = .ok (.aload_n 0, 1) := by decide +kernel
theorem dX9_calls_16 : decode cX9_calls 16 = .ok (.iload_n 1, 1) := by decide +kernel
theorem dX9_calls_17 : decode cX9_calls 17 = .ok (.invokevirtual 292, 3) := by decide +kernel
theorem dX9_calls_20 : decode cX9_calls 20 = .ok (.ifCond .eq 7, 3) := by decide +kernel
theorem dX9_calls_23 : decode cX9_calls 23 = .ok (.iload_n 1, 1) := by decide +kernel
theorem dX9_calls_24 : decode cX9_calls 24 = .ok (.goto 5, 3) := by decide +kernel
theorem dX9_calls_27 : decode cX9_calls 27 = .ok (.bipush (-4), 2) := by decide +kernel
theorem dX9_calls_29 : decode cX9_calls 29 = .ok (.ireturn, 1) := by decide +kernel
theorem dX9_calls_30 : decode cX9_calls 30 = .ok (.aload_n 0, 1) := by decide +kernel
theorem dX9_calls_31 : decode cX9_calls 31 = .ok (.iconst 0, 1) := by decide +kernel
theorem dX9_calls_32 : decode cX9_calls 32 = .ok (.invokevirtual 295, 3) := by decide +kernel
theorem dX9_calls_35 : decode cX9_calls 35 = .ok (.istore_n 2, 1) := by decide +kernel
theorem dX9_calls_36 : decode cX9_calls 36 = .ok (.iload_n 2, 1) := by decide +kernel
theorem dX9_calls_37 : decode cX9_calls 37 = .ok (.ifCond .eq 5, 3) := by decide +kernel
theorem dX9_calls_40 : decode cX9_calls 40 = .ok (.iload_n 2, 1) := by decide +kernel
theorem dX9_calls_41 : decode cX9_calls 41 = .ok (.ireturn, 1) := by decide +kernel
theorem dX9_calls_42 : decode cX9_calls 42 = .ok (.aload_n 0, 1) := by decide +kernel
theorem dX9_calls_43 : decode cX9_calls 43 = .ok (.invokevirtual 299, 3) := by decide +kernel
theorem dX9_calls_46 : decode cX9_calls 46 = .ok (.aload_n 0, 1) := by decide +kernel
theorem dX9_calls_47 : decode cX9_calls 47 = .ok (.iconst 0, 1) := by decide +kernel
theorem dX9_calls_48 : decode cX9_calls 48 = .ok (.invokevirtual 302, 3) := by decide +kernel
theorem dX9_calls_51 : decode cX9_calls 51 = .ok (.istore_n 3, 1) := by decide +kernel
theorem dX9_calls_52 : decode cX9_calls 52 = .ok (.aload_n 0, 1) := by decide +kernel
theorem dX9_calls_53 : decode cX9_calls 53 = .ok (.getfield 22, 3) := by decide +kernel
theorem dX9_calls_56 : decode cX9_calls 56 = .ok (.iconst 0, 1) := by decide +kernel
theorem dX9_calls_57 : decode cX9_calls 57 = .ok (.baload, 1) := by decide +kernel
theorem dX9_calls_58 : decode cX9_calls 58 = .ok (.ifCond .eq 18, 3) := by decide +kernel
theorem dX9_calls_61 : decode cX9_calls 61 = .ok (.aload_n 0, 1) := by decide +kernel
theorem dX9_calls_62 : decode cX9_calls 62 = .ok (.iconst 0, 1) := by decide +kernel
theorem dX9_calls_63 : decode cX9_calls 63 = .ok (.invokevirtual 305, 3) := by decide +kernel
theorem dX9_calls_66 : decode cX9_calls 66 = .ok (.aload_n 0, 1) := by decide +kernel
theorem dX9_calls_67 : decode cX9_calls 67 = .ok (.invokevirtual 299, 3) := by decide +kernel
theorem dX9_calls_70 : decode cX9_calls 70 = .ok (.aload_n 0, 1) := by decide +kernel
theorem dX9_calls_71 : decode cX9_calls 71 = .ok (.iconst 0, 1) := by decide +kernel
theorem dX9_calls_72 : decode cX9_calls 72 = .ok (.invokevirtual 302, 3) := by decide +kernel
theorem dX9_calls_75 : decode cX9_calls 75 = .ok (.pop, 1) := by decide +kernel
theorem dX9_calls_76 : decode cX9_calls 76 = .ok (.iload_n 3, 1) := by decide +kernel
theorem dX9_calls_77 : decode cX9_calls 77 = .ok (.ireturn, 1) := by decide +kernel
theorem dX9_in_0 : decode cX9_in 0 = .ok (.iload_n 0, 1) := by decide +kernel
theorem dX9_in_1 : decode cX9_in 1 = .ok (.iload_n 1, 1) := by decide +kernel
theorem dX9_in_2 : decode cX9_in 2 = .ok (.if_icmp .lt 12, 3) := by decide +kernel
theorem dX9_in_5 : decode cX9_in 5 = .ok (.iload_n 0, 1) := by decide +kernel
theorem dX9_in_6 : decode cX9_in 6 = .ok (.iload_n 2, 1) := by decide +kernel
theorem dX9_in_7 : decode cX9_in 7 = .ok (.if_icmp .gt 7, 3) := by decide +kernel
theorem dX9_in_10 : decode cX9_in 10 = .ok (.iconst 1, 1) := by decide +kernel
theorem dX9_in_11 : decode cX9_in 11 = .ok (.goto 4, 3) := by decide +kernel
theorem dX9_in_14 : decode cX9_in 14 = .ok (.iconst 0, 1) := by decide +kernel
theorem dX9_in_15 : decode cX9_in 15 = .ok (.ireturn, 1) := by decide +kernel
theorem dX9_open_0 : decode cX9_open 0 = .ok (.lload_n 1, 1) := by decide +kernel
theorem dX9_open_1 : decode cX9_open 1 = .ok (.lconst 0, 1) := by decide +kernel
theorem dX9_open_2 : decode cX9_open 2 = .ok (.lcmp, 1) := by decide +kernel
theorem dX9_open_3 : decode cX9_open 3 = .ok (.ifCond .le 6, 3) := by decide +kernel
theorem dX9_open_6 : decode cX9_open 6 = .ok (.bipush (-6), 2) := by decide +kernel
theorem dX9_open_8 : decode cX9_open 8 = .ok (.ireturn, 1) := by decide +kernel
theorem dX9_open_9 : decode cX9_open 9 = .ok (.aload_n 0, 1) := by decide +kernel
theorem dX9_open_10 : decode cX9_open 10 = .ok (.getfield 13, 3) := by decide +kernel
theorem dX9_open_13 : decode cX9_open 13 = .ok (.iconst 0, 1) := by decide +kernel
theorem dX9_open_14 : decode cX9_open 14 = .ok (.iaload, 1) := by decide +kernel
theorem dX9_open_15 : decode cX9_open 15 = .ok (.sipush 200, 3) := by decide +kernel
theorem dX9_open_18 : decode cX9_open 18 = .ok (.if_icmp .ne 6, 3) := by decide +kernel
theorem dX9_open_21 : decode cX9_open 21 = .ok (.bipush (-8), 2) := by decide +kernel
theorem dX9_open_23 : decode cX9_open 23 = .ok (.ireturn, 1) := by decide +kernel
theorem dX9_open_24 : decode cX9_open 24 = .ok (.aload_n 0, 1) := by decide +kernel
theorem dX9_open_25 : decode cX9_open 25 = .ok (.getfield 7, 3) := by decide +kernel
theorem dX9_open_28 : decode cX9_open 28 = .ok (.iconst 0, 1) := by decide +kernel
theorem dX9_open_29 : decode cX9_open 29 = .ok (.iaload, 1) := by decide +kernel
theorem dX9_open_30 : decode cX9_open 30 = .ok (.bipush 40, 2) := by decide +kernel
theorem dX9_open_32 : decode cX9_open 32 = .ok (.if_icmp .ne 5, 3) := by decide +kernel
theorem dX9_open_35 : decode cX9_open 35 = .ok (.iconst (-1), 1) := by decide +kernel
theorem dX9_open_36 : decode cX9_open 36 = .ok (.ireturn, 1) := by decide +kernel
theorem dX9_open_37 : decode cX9_open 37 = .ok (.aload_n 0, 1) := by decide +kernel
theorem dX9_open_38 : decode cX9_open 38 = .ok (.iconst 1, 1) := by decide +kernel
theorem dX9_open_39 : decode cX9_open 39 = .ok (.lconst 0, 1) := by decide +kernel
theorem dX9_open_40 : decode cX9_open 40 = .ok (.invokevirtual 281, 3) := by decide +kernel
theorem dX9_open_43 : decode cX9_open 43 = .ok (.aload_n 0, 1) := by decide +kernel
theorem dX9_open_44 : decode cX9_open 44 = .ok (.lload_n 1, 1) := by decide +kernel
theorem dX9_open_45 : decode cX9_open 45 = .ok (.invokevirtual 244, 3) := by decide +kernel
theorem dX9_open_48 : decode cX9_open 48 = .ok (.aload_n 0, 1) := by decide +kernel
theorem dX9_open_49 : decode cX9_open 49 = .ok (.lload_n 1, 1) := by decide +kernel
theorem dX9_open_50 : decode cX9_open 50 = .ok (.putfield 234, 3) := by decide +kernel
theorem dX9_open_53 : decode cX9_open 53 = .ok (.aload_n 0, 1) := by decide +kernel
theorem dX9_open_54 : decode cX9_open 54 = .ok (.invokevirtual 299, 3) := by decide +kernel
theorem dX9_open_57 : decode cX9_open 57 = .ok (.aload_n 0, 1) := by decide +kernel
theorem dX9_open_58 : decode cX9_open 58 = .ok (.iconst 0, 1) := by decide +kernel
theorem dX9_open_59 : decode cX9_open 59 = .ok (.invokevirtual 302, 3) := by decide +kernel
theorem dX9_open_62 : decode cX9_open 62 = .ok (.pop, 1) := by decide +kernel
theorem dX9_open_63 : decode cX9_open 63 = .ok (.aload_n 0, 1) := by decide +kernel
theorem dX9_open_64 : decode cX9_open 64 = .ok (.getfield 7, 3) := by decide +kernel
theorem dX9_open_67 : decode cX9_open 67 = .ok (.iconst 0, 1) := by decide +kernel
theorem dX9_open_68 : decode cX9_open 68 = .ok (.iaload, 1) := by decide +kernel
theorem dX9_open_69 : decode cX9_open 69 = .ok (.iconst 1, 1) := by decide +kernel
theorem dX9_open_70 : decode cX9_open 70 = .ok (.isub, 1) := by decide +kernel
theorem dX9_open_71 : decode cX9_open 71 = .ok (.ireturn, 1) := by decide +kernel
theorem dX9_leg__0 : decode cX9_leg_ 0 = .ok (.aload_n 0, 1) := by decide +kernel
theorem dX9_leg__1 : decode cX9_leg_ 1 = .ok (.getfield 308, 3) := by decide +kernel
theorem dX9_leg__4 : decode cX9_leg_ 4 = .ok (.bipush 8, 2) := by decide +kernel
theorem dX9_leg__6 : decode cX9_leg_ 6 = .ok (.if_icmp .eq 28, 3) := by decide +kernel
theorem dX9_leg__9 : decode cX9_leg_ 9 = .ok (.iload_n 1, 1) := by decide +kernel
theorem dX9_leg__10 : decode cX9_leg_ 10 = .ok (.iconst 0, 1) := by decide +kernel
theorem dX9_leg__11 : decode cX9_leg_ 11 = .ok (.sipush 255, 3) := by decide +kernel
theorem dX9_leg__14 : decode cX9_leg_ 14 = .ok (.invokestatic 311, 3) := by decide +kernel
theorem dX9_leg__17 : decode cX9_leg_ 17 = .ok (.ifCond .eq 17, 3) := by decide +kernel
theorem dX9_leg__20 : decode cX9_leg_ 20 = .ok (.lload_n 2, 1) := by decide +kernel
theorem dX9_leg__21 : decode cX9_leg_ 21 = .ok (.lconst 0, 1) := by decide +kernel
theorem dX9_leg__22 : decode cX9_leg_ 22 = .ok (.lcmp, 1) := by decide +kernel
theorem dX9_leg__23 : decode cX9_leg_ 23 = .ok (.ifCond .eq 11, 3) := by decide +kernel
theorem dX9_leg__26 : decode cX9_leg_ 26 = .ok (.lload_n 2, 1) := by decide +kernel
theorem dX9_leg__27 : decode cX9_leg_ 27 = .ok (.ldc2_w 315, 3) := by decide +kernel
theorem dX9_leg__30 : decode cX9_leg_ 30 = .ok (.lcmp, 1) := by decide +kernel
theorem dX9_leg__31 : decode cX9_leg_ 31 = .ok (.ifCond .ne 5, 3) := by decide +kernel
theorem dX9_leg__34 : decode cX9_leg_ 34 = .ok (.iconst (-1), 1) := by decide +kernel
theorem dX9_leg__35 : decode cX9_leg_ 35 = .ok (.ireturn, 1) := by decide +kernel
theorem dX9_leg__36 : decode cX9_leg_ 36 = .ok (.aload_n 0, 1) := by decide +kernel
theorem dX9_leg__37 : decode cX9_leg_ 37 = .ok (.getfield 96, 3) := by decide +kernel
theorem dX9_leg__40 : decode cX9_leg_ 40 = .ok (.aload_n 0, 1) := by decide +kernel
theorem dX9_leg__41 : decode cX9_leg_ 41 = .ok (.getfield 308, 3) := by decide +kernel
theorem dX9_leg__44 : decode cX9_leg_ 44 = .ok (.iload_n 1, 1) := by decide +kernel
theorem dX9_leg__45 : decode cX9_leg_ 45 = .ok (.iastore, 1) := by decide +kernel
theorem dX9_leg__46 : decode cX9_leg_ 46 = .ok (.aload_n 0, 1) := by decide +kernel
theorem dX9_leg__47 : decode cX9_leg_ 47 = .ok (.getfield 99, 3) := by decide +kernel
theorem dX9_leg__50 : decode cX9_leg_ 50 = .ok (.aload_n 0, 1) := by decide +kernel
theorem dX9_leg__51 : decode cX9_leg_ 51 = .ok (.getfield 308, 3) := by decide +kernel
theorem dX9_leg__54 : decode cX9_leg_ 54 = .ok (.lload_n 2, 1) := by decide +kernel
theorem dX9_leg__55 : decode cX9_leg_ 55 = .ok (.lastore, 1) := by decide +kernel
theorem dX9_leg__56 : decode cX9_leg_ 56 = .ok (.aload_n 0, 1) := by decide +kernel
theorem dX9_leg__57 : decode cX9_leg_ 57 = .ok (.dup, 1) := by decide +kernel
theorem dX9_leg__58 : decode cX9_leg_ 58 = .ok (.getfield 308, 3) := by decide +kernel
theorem dX9_leg__61 : decode cX9_leg_ 61 = .ok (.iconst 1, 1) := by decide +kernel
theorem dX9_leg__62 : decode cX9_leg_ 62 = .ok (.iadd, 1) := by decide +kernel
theorem dX9_leg__63 : decode cX9_leg_ 63 = .ok (.putfield 308, 3) := by decide +kernel
theorem dX9_leg__66 : decode cX9_leg_ 66 = .ok (.aload_n 0, 1) := by decide +kernel
theorem dX9_leg__67 : decode cX9_leg_ 67 = .ok (.getfield 308, 3) := by decide +kernel
theorem dX9_leg__70 : decode cX9_leg_ 70 = .ok (.ireturn, 1) := by decide +kernel
theorem dX9_clear_0 : decode cX9_clear 0 = .ok (.aload_n 0, 1) := by decide +kernel
theorem dX9_clear_1 : decode cX9_clear 1 = .ok (.getfield 308, 3) := by decide +kernel
theorem dX9_clear_4 : decode cX9_clear 4 = .ok (.istore_n 1, 1) := by decide +kernel
theorem dX9_clear_5 : decode cX9_clear 5 = .ok (.aload_n 0, 1) := by decide +kernel
theorem dX9_clear_6 : decode cX9_clear 6 = .ok (.iconst 0, 1) := by decide +kernel
theorem dX9_clear_7 : decode cX9_clear 7 = .ok (.putfield 308, 3) := by decide +kernel
theorem dX9_clear_10 : decode cX9_clear 10 = .ok (.iload_n 1, 1) := by decide +kernel
theorem dX9_clear_11 : decode cX9_clear 11 = .ok (.ireturn, 1) := by decide +kernel
theorem dX9_post_0 : decode cX9_post 0 = .ok (.aload_n 0, 1) := by decide +kernel
theorem dX9_post_1 : decode cX9_post 1 = .ok (.getfield 308, 3) := by decide +kernel
theorem dX9_post_4 : decode cX9_post 4 = .ok (.ifCond .eq 9, 3) := by decide +kernel
theorem dX9_post_7 : decode cX9_post 7 = .ok (.lload_n 1, 1) := by decide +kernel
theorem dX9_post_8 : decode cX9_post 8 = .ok (.lconst 0, 1) := by decide +kernel
theorem dX9_post_9 : decode cX9_post 9 = .ok (.lcmp, 1) := by decide +kernel
theorem dX9_post_10 : decode cX9_post 10 = .ok (.ifCond .ne 5, 3) := by decide +kernel
theorem dX9_post_13 : decode cX9_post 13 = .ok (.iconst (-1), 1) := by decide +kernel
theorem dX9_post_14 : decode cX9_post 14 = .ok (.ireturn, 1) := by decide +kernel
theorem dX9_post_15 : decode cX9_post 15 = .ok (.aload_n 0, 1) := by decide +kernel
theorem dX9_post_16 : decode cX9_post 16 = .ok (.iconst 2, 1) := by decide +kernel
theorem dX9_post_17 : decode cX9_post 17 = .ok (.lload_n 1, 1) := by decide +kernel
theorem dX9_post_18 : decode cX9_post 18 = .ok (.invokevirtual 281, 3) := by decide +kernel
theorem dX9_post_21 : decode cX9_post 21 = .ok (.aload_n 0, 1) := by decide +kernel
theorem dX9_post_22 : decode cX9_post 22 = .ok (.aload_n 0, 1) := by decide +kernel
theorem dX9_post_23 : decode cX9_post 23 = .ok (.getfield 308, 3) := by decide +kernel
theorem dX9_post_26 : decode cX9_post 26 = .ok (.invokevirtual 240, 3) := by decide +kernel
theorem dX9_post_29 : decode cX9_post 29 = .ok (.iconst 0, 1) := by decide +kernel
theorem dX9_post_30 : decode cX9_post 30 = .ok (.istore_n 3, 1) := by decide +kernel
theorem dX9_post_31 : decode cX9_post 31 = .ok (.iload_n 3, 1) := by decide +kernel
theorem dX9_post_32 : decode cX9_post 32 = .ok (.aload_n 0, 1) := by decide +kernel
theorem dX9_post_33 : decode cX9_post 33 = .ok (.getfield 308, 3) := by decide +kernel
theorem dX9_post_36 : decode cX9_post 36 = .ok (.if_icmp .ge 46, 3) := by decide +kernel
theorem dX9_post_39 : decode cX9_post 39 = .ok (.aload_n 0, 1) := by decide +kernel
theorem dX9_post_40 : decode cX9_post 40 = .ok (.aload_n 0, 1) := by decide +kernel
theorem dX9_post_41 : decode cX9_post 41 = .ok (.getfield 96, 3) := by decide +kernel
theorem dX9_post_44 : decode cX9_post 44 = .ok (.iload_n 3, 1) := by decide +kernel
theorem dX9_post_45 : decode cX9_post 45 = .ok (.iaload, 1) := by decide +kernel
theorem dX9_post_46 : decode cX9_post 46 = .ok (.aload_n 0, 1) := by decide +kernel
theorem dX9_post_47 : decode cX9_post 47 = .ok (.getfield 99, 3) := by decide +kernel
theorem dX9_post_50 : decode cX9_post 50 = .ok (.iload_n 3, 1) := by decide +kernel
theorem dX9_post_51 : decode cX9_post 51 = .ok (.laload, 1) := by decide +kernel
theorem dX9_post_52 : decode cX9_post 52 = .ok (.iload_n 3, 1) := by decide +kernel
theorem dX9_post_53 : decode cX9_post 53 = .ok (.invokevirtual 257, 3) := by decide +kernel
theorem dX9_post_56 : decode cX9_post 56 = .ok (.aload_n 0, 1) := by decide +kernel
theorem dX9_post_57 : decode cX9_post 57 = .ok (.aload_n 0, 1) := by decide +kernel
theorem dX9_post_58 : decode cX9_post 58 = .ok (.getfield 96, 3) := by decide +kernel
theorem dX9_post_61 : decode cX9_post 61 = .ok (.iload_n 3, 1) := by decide +kernel
theorem dX9_post_62 : decode cX9_post 62 = .ok (.iaload, 1) := by decide +kernel
theorem dX9_post_63 : decode cX9_post 63 = .ok (.invokevirtual 240, 3) := by decide +kernel
theorem dX9_post_66 : decode cX9_post 66 = .ok (.aload_n 0, 1) := by decide +kernel
theorem dX9_post_67 : decode cX9_post 67 = .ok (.aload_n 0, 1) := by decide +kernel
theorem dX9_post_68 : decode cX9_post 68 = .ok (.getfield 99, 3) := by decide +kernel
theorem dX9_post_71 : decode cX9_post 71 = .ok (.iload_n 3, 1) := by decide +kernel
theorem dX9_post_72 : decode cX9_post 72 = .ok (.laload, 1) := by decide +kernel
theorem dX9_post_73 : decode cX9_post 73 = .ok (.invokevirtual 244, 3) := by decide +kernel
theorem dX9_post_76 : decode cX9_post 76 = .ok (.iinc 3 1, 3) := by decide +kernel
theorem dX9_post_79 : decode cX9_post 79 = .ok (.goto (-48), 3) := by decide +kernel
theorem dX9_post_82 : decode cX9_post 82 = .ok (.aload_n 0, 1) := by decide +kernel
theorem dX9_post_83 : decode cX9_post 83 = .ok (.invokevirtual 317, 3) := by decide +kernel
theorem dX9_post_86 : decode cX9_post 86 = .ok (.istore_n 3, 1) := by decide +kernel
theorem dX9_post_87 : decode cX9_post 87 = .ok (.iload_n 3, 1) := by decide +kernel
theorem dX9_post_88 : decode cX9_post 88 = .ok (.ifCond .lt 8, 3) := by decide +kernel
theorem dX9_post_91 : decode cX9_post 91 = .ok (.aload_n 0, 1) := by decide +kernel
theorem dX9_post_92 : decode cX9_post 92 = .ok (.iconst 0, 1) := by decide +kernel
theorem dX9_post_93 : decode cX9_post 93 = .ok (.putfield 308, 3) := by decide +kernel
theorem dX9_post_96 : decode cX9_post 96 = .ok (.iload_n 3, 1) := by decide +kernel
theorem dX9_post_97 : decode cX9_post 97 = .ok (.ireturn, 1) := by decide +kernel
theorem dX9_hold__0 : decode cX9_hold_ 0 = .ok (.lload_n 1, 1) := by decide +kernel
theorem dX9_hold__1 : decode cX9_hold_ 1 = .ok (.lconst 0, 1) := by decide +kernel
theorem dX9_hold__2 : decode cX9_hold_ 2 = .ok (.lcmp, 1) := by decide +kernel
theorem dX9_hold__3 : decode cX9_hold_ 3 = .ok (.ifCond .eq 21, 3) := by decide +kernel
theorem dX9_hold__6 : decode cX9_hold_ 6 = .ok (.iload_n 3, 1) := by decide +kernel
theorem dX9_hold__7 : decode cX9_hold_ 7 = .ok (.iconst 0, 1) := by decide +kernel
theorem dX9_hold__8 : decode cX9_hold_ 8 = .ok (.sipush 255, 3) := by decide +kernel
theorem dX9_hold__11 : decode cX9_hold_ 11 = .ok (.invokestatic 311, 3) := by decide +kernel
theorem dX9_hold__14 : decode cX9_hold_ 14 = .ok (.ifCond .eq 10, 3) := by decide +kernel
theorem dX9_hold__17 : decode cX9_hold_ 17 = .ok (.lload 4, 2) := by decide +kernel
theorem dX9_hold__19 : decode cX9_hold_ 19 = .ok (.lconst 0, 1) := by decide +kernel
theorem dX9_hold__20 : decode cX9_hold_ 20 = .ok (.lcmp, 1) := by decide +kernel
theorem dX9_hold__21 : decode cX9_hold_ 21 = .ok (.ifCond .gt 5, 3) := by decide +kernel
theorem dX9_hold__24 : decode cX9_hold_ 24 = .ok (.iconst (-1), 1) := by decide +kernel
theorem dX9_hold__25 : decode cX9_hold_ 25 = .ok (.ireturn, 1) := by decide +kernel
theorem dX9_hold__26 : decode cX9_hold_ 26 = .ok (.aload_n 0, 1) := by decide +kernel
theorem dX9_hold__27 : decode cX9_hold_ 27 = .ok (.iconst 3, 1) := by decide +kernel
theorem dX9_hold__28 : decode cX9_hold_ 28 = .ok (.lload_n 1, 1) := by decide +kernel
theorem dX9_hold__29 : decode cX9_hold_ 29 = .ok (.invokevirtual 281, 3) := by decide +kernel
theorem dX9_hold__32 : decode cX9_hold_ 32 = .ok (.aload_n 0, 1) := by decide +kernel
theorem dX9_hold__33 : decode cX9_hold_ 33 = .ok (.iload_n 3, 1) := by decide +kernel
theorem dX9_hold__34 : decode cX9_hold_ 34 = .ok (.invokevirtual 240, 3) := by decide +kernel
theorem dX9_hold__37 : decode cX9_hold_ 37 = .ok (.aload_n 0, 1) := by decide +kernel
theorem dX9_hold__38 : decode cX9_hold_ 38 = .ok (.lload 4, 2) := by decide +kernel
theorem dX9_hold__40 : decode cX9_hold_ 40 = .ok (.invokevirtual 244, 3) := by decide +kernel
theorem dX9_hold__43 : decode cX9_hold_ 43 = .ok (.aload_n 0, 1) := by decide +kernel
theorem dX9_hold__44 : decode cX9_hold_ 44 = .ok (.iload_n 3, 1) := by decide +kernel
theorem dX9_hold__45 : decode cX9_hold_ 45 = .ok (.putfield 231, 3) := by decide +kernel
theorem dX9_hold__48 : decode cX9_hold_ 48 = .ok (.aload_n 0, 1) := by decide +kernel
theorem dX9_hold__49 : decode cX9_hold_ 49 = .ok (.lload 4, 2) := by decide +kernel
theorem dX9_hold__51 : decode cX9_hold_ 51 = .ok (.putfield 234, 3) := by decide +kernel
theorem dX9_hold__54 : decode cX9_hold_ 54 = .ok (.aload_n 0, 1) := by decide +kernel
theorem dX9_hold__55 : decode cX9_hold_ 55 = .ok (.invokevirtual 317, 3) := by decide +kernel
theorem dX9_hold__58 : decode cX9_hold_ 58 = .ok (.ireturn, 1) := by decide +kernel
theorem dX9_release_0 : decode cX9_release 0 = .ok (.iload_n 1, 1) := by decide +kernel
theorem dX9_release_1 : decode cX9_release 1 = .ok (.iconst 0, 1) := by decide +kernel
theorem dX9_release_2 : decode cX9_release 2 = .ok (.sipush 199, 3) := by decide +kernel
theorem dX9_release_5 : decode cX9_release 5 = .ok (.invokestatic 311, 3) := by decide +kernel
theorem dX9_release_8 : decode cX9_release 8 = .ok (.ifCond .ne 5, 3) := by decide +kernel
theorem dX9_release_11 : decode cX9_release 11 = .ok (.iconst (-1), 1) := by decide +kernel
theorem dX9_release_12 : decode cX9_release 12 = .ok (.ireturn, 1) := by decide +kernel
theorem dX9_release_13 : decode cX9_release 13 = .ok (.aload_n 0, 1) := by decide +kernel
theorem dX9_release_14 : decode cX9_release 14 = .ok (.iconst 4, 1) := by decide +kernel
theorem dX9_release_15 : decode cX9_release 15 = .ok (.lconst 0, 1) := by decide +kernel
theorem dX9_release_16 : decode cX9_release 16 = .ok (.invokevirtual 281, 3) := by decide +kernel
theorem dX9_release_19 : decode cX9_release 19 = .ok (.aload_n 0, 1) := by decide +kernel
theorem dX9_release_20 : decode cX9_release 20 = .ok (.iload_n 1, 1) := by decide +kernel
theorem dX9_release_21 : decode cX9_release 21 = .ok (.invokevirtual 321, 3) := by decide +kernel
theorem dX9_release_24 : decode cX9_release 24 = .ok (.aload_n 0, 1) := by decide +kernel
theorem dX9_release_25 : decode cX9_release 25 = .ok (.iload_n 1, 1) := by decide +kernel
theorem dX9_release_26 : decode cX9_release 26 = .ok (.putfield 228, 3) := by decide +kernel
theorem dX9_release_29 : decode cX9_release 29 = .ok (.aload_n 0, 1) := by decide +kernel
theorem dX9_release_30 : decode cX9_release 30 = .ok (.invokevirtual 317, 3) := by decide +kernel
theorem dX9_release_33 : decode cX9_release 33 = .ok (.ireturn, 1) := by decide +kernel
theorem dX9_capture_0 : decode cX9_capture 0 = .ok (.lload_n 1, 1) := by decide +kernel
theorem dX9_capture_1 : decode cX9_capture 1 = .ok (.lconst 0, 1) := by decide +kernel
theorem dX9_capture_2 : decode cX9_capture 2 = .ok (.lcmp, 1) := by decide +kernel
theorem dX9_capture_3 : decode cX9_capture 3 = .ok (.ifCond .eq 33, 3) := by decide +kernel
theorem dX9_capture_6 : decode cX9_capture 6 = .ok (.iload_n 3, 1) := by decide +kernel
theorem dX9_capture_7 : decode cX9_capture 7 = .ok (.iconst 0, 1) := by decide +kernel
theorem dX9_capture_8 : decode cX9_capture 8 = .ok (.sipush 199, 3) := by decide +kernel
theorem dX9_capture_11 : decode cX9_capture 11 = .ok (.invokestatic 311, 3) := by decide +kernel
theorem dX9_capture_14 : decode cX9_capture 14 = .ok (.ifCond .eq 22, 3) := by decide +kernel
theorem dX9_capture_17 : decode cX9_capture 17 = .ok (.iload 4, 2) := by decide +kernel
theorem dX9_capture_19 : decode cX9_capture 19 = .ok (.iconst 0, 1) := by decide +kernel
theorem dX9_capture_20 : decode cX9_capture 20 = .ok (.sipush 255, 3) := by decide +kernel
theorem dX9_capture_23 : decode cX9_capture 23 = .ok (.invokestatic 311, 3) := by decide +kernel
theorem dX9_capture_26 : decode cX9_capture 26 = .ok (.ifCond .eq 10, 3) := by decide +kernel
theorem dX9_capture_29 : decode cX9_capture 29 = .ok (.lload 5, 2) := by decide +kernel
theorem dX9_capture_31 : decode cX9_capture 31 = .ok (.lconst 0, 1) := by decide +kernel
theorem dX9_capture_32 : decode cX9_capture 32 = .ok (.lcmp, 1) := by decide +kernel
theorem dX9_capture_33 : decode cX9_capture 33 = .ok (.ifCond .gt 5, 3) := by decide +kernel
theorem dX9_capture_36 : decode cX9_capture 36 = .ok (.iconst (-1), 1) := by decide +kernel
theorem dX9_capture_37 : decode cX9_capture 37 = .ok (.ireturn, 1) := by decide +kernel
theorem dX9_capture_38 : decode cX9_capture 38 = .ok (.aload_n 0, 1) := by decide +kernel
theorem dX9_capture_39 : decode cX9_capture 39 = .ok (.iconst 5, 1) := by decide +kernel
theorem dX9_capture_40 : decode cX9_capture 40 = .ok (.lload_n 1, 1) := by decide +kernel
theorem dX9_capture_41 : decode cX9_capture 41 = .ok (.invokevirtual 281, 3) := by decide +kernel
theorem dX9_capture_44 : decode cX9_capture 44 = .ok (.aload_n 0, 1) := by decide +kernel
theorem dX9_capture_45 : decode cX9_capture 45 = .ok (.iload_n 3, 1) := by decide +kernel
theorem dX9_capture_46 : decode cX9_capture 46 = .ok (.invokevirtual 321, 3) := by decide +kernel
theorem dX9_capture_49 : decode cX9_capture 49 = .ok (.aload_n 0, 1) := by decide +kernel
theorem dX9_capture_50 : decode cX9_capture 50 = .ok (.iload 4, 2) := by decide +kernel
theorem dX9_capture_52 : decode cX9_capture 52 = .ok (.invokevirtual 240, 3) := by decide +kernel
theorem dX9_capture_55 : decode cX9_capture 55 = .ok (.aload_n 0, 1) := by decide +kernel
theorem dX9_capture_56 : decode cX9_capture 56 = .ok (.lload 5, 2) := by decide +kernel
theorem dX9_capture_58 : decode cX9_capture 58 = .ok (.invokevirtual 244, 3) := by decide +kernel
theorem dX9_capture_61 : decode cX9_capture 61 = .ok (.aload_n 0, 1) := by decide +kernel
theorem dX9_capture_62 : decode cX9_capture 62 = .ok (.iload_n 3, 1) := by decide +kernel
theorem dX9_capture_63 : decode cX9_capture 63 = .ok (.putfield 228, 3) := by decide +kernel
theorem dX9_capture_66 : decode cX9_capture 66 = .ok (.aload_n 0, 1) := by decide +kernel
theorem dX9_capture_67 : decode cX9_capture 67 = .ok (.iload 4, 2) := by decide +kernel
theorem dX9_capture_69 : decode cX9_capture 69 = .ok (.putfield 231, 3) := by decide +kernel
theorem dX9_capture_72 : decode cX9_capture 72 = .ok (.aload_n 0, 1) := by decide +kernel
theorem dX9_capture_73 : decode cX9_capture 73 = .ok (.lload 5, 2) := by decide +kernel
theorem dX9_capture_75 : decode cX9_capture 75 = .ok (.putfield 234, 3) := by decide +kernel
theorem dX9_capture_78 : decode cX9_capture 78 = .ok (.aload_n 0, 1) := by decide +kernel
theorem dX9_capture_79 : decode cX9_capture 79 = .ok (.invokevirtual 317, 3) := by decide +kernel
theorem dX9_capture_82 : decode cX9_capture 82 = .ok (.ireturn, 1) := by decide +kernel
theorem dX9_reverse_0 : decode cX9_reverse 0 = .ok (.lload_n 1, 1) := by decide +kernel
theorem dX9_reverse_1 : decode cX9_reverse 1 = .ok (.lconst 0, 1) := by decide +kernel
theorem dX9_reverse_2 : decode cX9_reverse 2 = .ok (.lcmp, 1) := by decide +kernel
theorem dX9_reverse_3 : decode cX9_reverse 3 = .ok (.ifCond .eq 14, 3) := by decide +kernel
theorem dX9_reverse_6 : decode cX9_reverse 6 = .ok (.iload_n 3, 1) := by decide +kernel
theorem dX9_reverse_7 : decode cX9_reverse 7 = .ok (.iconst 0, 1) := by decide +kernel
theorem dX9_reverse_8 : decode cX9_reverse 8 = .ok (.sipush 199, 3) := by decide +kernel
theorem dX9_reverse_11 : decode cX9_reverse 11 = .ok (.invokestatic 311, 3) := by decide +kernel
theorem dX9_reverse_14 : decode cX9_reverse 14 = .ok (.ifCond .ne 5, 3) := by decide +kernel
theorem dX9_reverse_17 : decode cX9_reverse 17 = .ok (.iconst (-1), 1) := by decide +kernel
theorem dX9_reverse_18 : decode cX9_reverse 18 = .ok (.ireturn, 1) := by decide +kernel
theorem dX9_reverse_19 : decode cX9_reverse 19 = .ok (.aload_n 0, 1) := by decide +kernel
theorem dX9_reverse_20 : decode cX9_reverse 20 = .ok (.bipush 6, 2) := by decide +kernel
theorem dX9_reverse_22 : decode cX9_reverse 22 = .ok (.lload_n 1, 1) := by decide +kernel
theorem dX9_reverse_23 : decode cX9_reverse 23 = .ok (.invokevirtual 281, 3) := by decide +kernel
theorem dX9_reverse_26 : decode cX9_reverse 26 = .ok (.aload_n 0, 1) := by decide +kernel
theorem dX9_reverse_27 : decode cX9_reverse 27 = .ok (.iload_n 3, 1) := by decide +kernel
theorem dX9_reverse_28 : decode cX9_reverse 28 = .ok (.invokevirtual 321, 3) := by decide +kernel
theorem dX9_reverse_31 : decode cX9_reverse 31 = .ok (.aload_n 0, 1) := by decide +kernel
theorem dX9_reverse_32 : decode cX9_reverse 32 = .ok (.iload_n 3, 1) := by decide +kernel
theorem dX9_reverse_33 : decode cX9_reverse 33 = .ok (.putfield 228, 3) := by decide +kernel
theorem dX9_reverse_36 : decode cX9_reverse 36 = .ok (.aload_n 0, 1) := by decide +kernel
theorem dX9_reverse_37 : decode cX9_reverse 37 = .ok (.invokevirtual 317, 3) := by decide +kernel
theorem dX9_reverse_40 : decode cX9_reverse 40 = .ok (.ireturn, 1) := by decide +kernel
theorem dX9_every_0 : decode cX9_every 0 = .ok (.iload_n 1, 1) := by decide +kernel
theorem dX9_every_1 : decode cX9_every 1 = .ok (.iconst 0, 1) := by decide +kernel
theorem dX9_every_2 : decode cX9_every 2 = .ok (.bipush 50, 2) := by decide +kernel
theorem dX9_every_4 : decode cX9_every 4 = .ok (.invokestatic 311, 3) := by decide +kernel
theorem dX9_every_7 : decode cX9_every 7 = .ok (.ifCond .ne 5, 3) := by decide +kernel
theorem dX9_every_10 : decode cX9_every 10 = .ok (.iconst (-1), 1) := by decide +kernel
theorem dX9_every_11 : decode cX9_every 11 = .ok (.ireturn, 1) := by decide +kernel
theorem dX9_every_12 : decode cX9_every 12 = .ok (.aload_n 0, 1) := by decide +kernel
theorem dX9_every_13 : decode cX9_every 13 = .ok (.getfield 16, 3) := by decide +kernel
theorem dX9_every_16 : decode cX9_every 16 = .ok (.iconst 0, 1) := by decide +kernel
theorem dX9_every_17 : decode cX9_every 17 = .ok (.iaload, 1) := by decide +kernel
theorem dX9_every_18 : decode cX9_every 18 = .ok (.istore_n 2, 1) := by decide +kernel
theorem dX9_every_19 : decode cX9_every 19 = .ok (.aload_n 0, 1) := by decide +kernel
theorem dX9_every_20 : decode cX9_every 20 = .ok (.getfield 16, 3) := by decide +kernel
theorem dX9_every_23 : decode cX9_every 23 = .ok (.iconst 0, 1) := by decide +kernel
theorem dX9_every_24 : decode cX9_every 24 = .ok (.iload_n 1, 1) := by decide +kernel
theorem dX9_every_25 : decode cX9_every 25 = .ok (.iastore, 1) := by decide +kernel
theorem dX9_every_26 : decode cX9_every 26 = .ok (.aload_n 0, 1) := by decide +kernel
theorem dX9_every_27 : decode cX9_every 27 = .ok (.getfield 19, 3) := by decide +kernel
theorem dX9_every_30 : decode cX9_every 30 = .ok (.iconst 0, 1) := by decide +kernel
theorem dX9_every_31 : decode cX9_every 31 = .ok (.iconst 0, 1) := by decide +kernel
theorem dX9_every_32 : decode cX9_every 32 = .ok (.iastore, 1) := by decide +kernel
theorem dX9_every_33 : decode cX9_every 33 = .ok (.aload_n 0, 1) := by decide +kernel
theorem dX9_every_34 : decode cX9_every 34 = .ok (.getfield 324, 3) := by decide +kernel
theorem dX9_every_37 : decode cX9_every 37 = .ok (.ifCond .eq 23, 3) := by decide +kernel
theorem dX9_every_40 : decode cX9_every 40 = .ok (.aload_n 0, 1) := by decide +kernel
theorem dX9_every_41 : decode cX9_every 41 = .ok (.getfield 78, 3) := by decide +kernel
theorem dX9_every_44 : decode cX9_every 44 = .ok (.aload_n 0, 1) := by decide +kernel
theorem dX9_every_45 : decode cX9_every 45 = .ok (.getfield 324, 3) := by decide +kernel
theorem dX9_every_48 : decode cX9_every 48 = .ok (.iconst 1, 1) := by decide +kernel
theorem dX9_every_49 : decode cX9_every 49 = .ok (.isub, 1) := by decide +kernel
theorem dX9_every_50 : decode cX9_every 50 = .ok (.iaload, 1) := by decide +kernel
theorem dX9_every_51 : decode cX9_every 51 = .ok (.aload_n 0, 1) := by decide +kernel
theorem dX9_every_52 : decode cX9_every 52 = .ok (.getfield 13, 3) := by decide +kernel
theorem dX9_every_55 : decode cX9_every 55 = .ok (.iconst 0, 1) := by decide +kernel
theorem dX9_every_56 : decode cX9_every 56 = .ok (.iaload, 1) := by decide +kernel
theorem dX9_every_57 : decode cX9_every 57 = .ok (.if_icmp .eq 13, 3) := by decide +kernel
theorem dX9_every_60 : decode cX9_every 60 = .ok (.aload_n 0, 1) := by decide +kernel
theorem dX9_every_61 : decode cX9_every 61 = .ok (.dup, 1) := by decide +kernel
theorem dX9_every_62 : decode cX9_every 62 = .ok (.getfield 324, 3) := by decide +kernel
theorem dX9_every_65 : decode cX9_every 65 = .ok (.iconst 1, 1) := by decide +kernel
theorem dX9_every_66 : decode cX9_every 66 = .ok (.iadd, 1) := by decide +kernel
theorem dX9_every_67 : decode cX9_every 67 = .ok (.putfield 324, 3) := by decide +kernel
theorem dX9_every_70 : decode cX9_every 70 = .ok (.aload_n 0, 1) := by decide +kernel
theorem dX9_every_71 : decode cX9_every 71 = .ok (.getfield 78, 3) := by decide +kernel
theorem dX9_every_74 : decode cX9_every 74 = .ok (.aload_n 0, 1) := by decide +kernel
theorem dX9_every_75 : decode cX9_every 75 = .ok (.getfield 324, 3) := by decide +kernel
theorem dX9_every_78 : decode cX9_every 78 = .ok (.iconst 1, 1) := by decide +kernel
theorem dX9_every_79 : decode cX9_every 79 = .ok (.isub, 1) := by decide +kernel
theorem dX9_every_80 : decode cX9_every 80 = .ok (.aload_n 0, 1) := by decide +kernel
theorem dX9_every_81 : decode cX9_every 81 = .ok (.getfield 13, 3) := by decide +kernel
theorem dX9_every_84 : decode cX9_every 84 = .ok (.iconst 0, 1) := by decide +kernel
theorem dX9_every_85 : decode cX9_every 85 = .ok (.iaload, 1) := by decide +kernel
theorem dX9_every_86 : decode cX9_every 86 = .ok (.iastore, 1) := by decide +kernel
theorem dX9_every_87 : decode cX9_every 87 = .ok (.aload_n 0, 1) := by decide +kernel
theorem dX9_every_88 : decode cX9_every 88 = .ok (.getfield 81, 3) := by decide +kernel
theorem dX9_every_91 : decode cX9_every 91 = .ok (.aload_n 0, 1) := by decide +kernel
theorem dX9_every_92 : decode cX9_every 92 = .ok (.getfield 324, 3) := by decide +kernel
theorem dX9_every_95 : decode cX9_every 95 = .ok (.iconst 1, 1) := by decide +kernel
theorem dX9_every_96 : decode cX9_every 96 = .ok (.isub, 1) := by decide +kernel
theorem dX9_every_97 : decode cX9_every 97 = .ok (.iload_n 1, 1) := by decide +kernel
theorem dX9_every_98 : decode cX9_every 98 = .ok (.iastore, 1) := by decide +kernel
theorem dX9_every_99 : decode cX9_every 99 = .ok (.iload_n 2, 1) := by decide +kernel
theorem dX9_every_100 : decode cX9_every 100 = .ok (.ireturn, 1) := by decide +kernel
theorem dX9_account_0 : decode cX9_account 0 = .ok (.iload_n 1, 1) := by decide +kernel
theorem dX9_account_1 : decode cX9_account 1 = .ok (.iconst 0, 1) := by decide +kernel
theorem dX9_account_2 : decode cX9_account 2 = .ok (.aload_n 0, 1) := by decide +kernel
theorem dX9_account_3 : decode cX9_account 3 = .ok (.getfield 7, 3) := by decide +kernel
theorem dX9_account_6 : decode cX9_account 6 = .ok (.iconst 0, 1) := by decide +kernel
theorem dX9_account_7 : decode cX9_account 7 = .ok (.iaload, 1) := by decide +kernel
theorem dX9_account_8 : decode cX9_account 8 = .ok (.iconst 1, 1) := by decide +kernel
theorem dX9_account_9 : decode cX9_account 9 = .ok (.isub, 1) := by decide +kernel
theorem dX9_account_10 : decode cX9_account 10 = .ok (.invokestatic 311, 3) := by decide +kernel
theorem dX9_account_13 : decode cX9_account 13 = .ok (.ifCond .ne 7, 3) := by decide +kernel
theorem dX9_account_16 : decode cX9_account 16 = .ok (.ldc2_w 315, 3) := by decide +kernel
theorem dX9_account_19 : decode cX9_account 19 = .ok (.lreturn, 1) := by decide +kernel
theorem dX9_account_20 : decode cX9_account 20 = .ok (.iload_n 2, 1) := by decide +kernel
theorem dX9_account_21 : decode cX9_account 21 = .ok (.ifCond .ne 12, 3) := by decide +kernel
theorem dX9_account_24 : decode cX9_account 24 = .ok (.aload_n 0, 1) := by decide +kernel
theorem dX9_account_25 : decode cX9_account 25 = .ok (.getfield 30, 3) := by decide +kernel
theorem dX9_account_28 : decode cX9_account 28 = .ok (.iload_n 1, 1) := by decide +kernel
theorem dX9_account_29 : decode cX9_account 29 = .ok (.laload, 1) := by decide +kernel
theorem dX9_account_30 : decode cX9_account 30 = .ok (.goto 44, 3) := by decide +kernel
theorem dX9_account_33 : decode cX9_account 33 = .ok (.iload_n 2, 1) := by decide +kernel
theorem dX9_account_34 : decode cX9_account 34 = .ok (.iconst 1, 1) := by decide +kernel
theorem dX9_account_35 : decode cX9_account 35 = .ok (.if_icmp .ne 22, 3) := by decide +kernel
theorem dX9_account_38 : decode cX9_account 38 = .ok (.aload_n 0, 1) := by decide +kernel
theorem dX9_account_39 : decode cX9_account 39 = .ok (.getfield 33, 3) := by decide +kernel
theorem dX9_account_42 : decode cX9_account 42 = .ok (.iload_n 1, 1) := by decide +kernel
theorem dX9_account_43 : decode cX9_account 43 = .ok (.laload, 1) := by decide +kernel
theorem dX9_account_44 : decode cX9_account 44 = .ok (.bipush 32, 2) := by decide +kernel
theorem dX9_account_46 : decode cX9_account 46 = .ok (.lshl, 1) := by decide +kernel
theorem dX9_account_47 : decode cX9_account 47 = .ok (.aload_n 0, 1) := by decide +kernel
theorem dX9_account_48 : decode cX9_account 48 = .ok (.getfield 36, 3) := by decide +kernel
theorem dX9_account_51 : decode cX9_account 51 = .ok (.iload_n 1, 1) := by decide +kernel
theorem dX9_account_52 : decode cX9_account 52 = .ok (.laload, 1) := by decide +kernel
theorem dX9_account_53 : decode cX9_account 53 = .ok (.lor, 1) := by decide +kernel
theorem dX9_account_54 : decode cX9_account 54 = .ok (.goto 20, 3) := by decide +kernel
theorem dX9_account_57 : decode cX9_account 57 = .ok (.iload_n 2, 1) := by decide +kernel
theorem dX9_account_58 : decode cX9_account 58 = .ok (.iconst 2, 1) := by decide +kernel
theorem dX9_account_59 : decode cX9_account 59 = .ok (.if_icmp .ne 12, 3) := by decide +kernel
theorem dX9_account_62 : decode cX9_account 62 = .ok (.aload_n 0, 1) := by decide +kernel
theorem dX9_account_63 : decode cX9_account 63 = .ok (.getfield 26, 3) := by decide +kernel
theorem dX9_account_66 : decode cX9_account 66 = .ok (.iload_n 1, 1) := by decide +kernel
theorem dX9_account_67 : decode cX9_account 67 = .ok (.laload, 1) := by decide +kernel
theorem dX9_account_68 : decode cX9_account 68 = .ok (.goto 6, 3) := by decide +kernel
theorem dX9_account_71 : decode cX9_account 71 = .ok (.ldc2_w 315, 3) := by decide +kernel
theorem dX9_account_74 : decode cX9_account 74 = .ok (.lreturn, 1) := by decide +kernel
theorem dX9_entry_0 : decode cX9_entry 0 = .ok (.iload_n 1, 1) := by decide +kernel
theorem dX9_entry_1 : decode cX9_entry 1 = .ok (.iconst 0, 1) := by decide +kernel
theorem dX9_entry_2 : decode cX9_entry 2 = .ok (.aload_n 0, 1) := by decide +kernel
theorem dX9_entry_3 : decode cX9_entry 3 = .ok (.getfield 13, 3) := by decide +kernel
theorem dX9_entry_6 : decode cX9_entry 6 = .ok (.iconst 0, 1) := by decide +kernel
theorem dX9_entry_7 : decode cX9_entry 7 = .ok (.iaload, 1) := by decide +kernel
theorem dX9_entry_8 : decode cX9_entry 8 = .ok (.iconst 1, 1) := by decide +kernel
theorem dX9_entry_9 : decode cX9_entry 9 = .ok (.isub, 1) := by decide +kernel
theorem dX9_entry_10 : decode cX9_entry 10 = .ok (.invokestatic 311, 3) := by decide +kernel
theorem dX9_entry_13 : decode cX9_entry 13 = .ok (.ifCond .ne 7, 3) := by decide +kernel
theorem dX9_entry_16 : decode cX9_entry 16 = .ok (.ldc2_w 315, 3) := by decide +kernel
theorem dX9_entry_19 : decode cX9_entry 19 = .ok (.lreturn, 1) := by decide +kernel
theorem dX9_entry_20 : decode cX9_entry 20 = .ok (.iload_n 2, 1) := by decide +kernel
theorem dX9_entry_21 : decode cX9_entry 21 = .ok (.tableswitch 86 0 5 #[39, 47, 55, 63, 70, 78], 39) := by decide +kernel
theorem dX9_entry_60 : decode cX9_entry 60 = .ok (.aload_n 0, 1) := by decide +kernel
theorem dX9_entry_61 : decode cX9_entry 61 = .ok (.getfield 39, 3) := by decide +kernel
theorem dX9_entry_64 : decode cX9_entry 64 = .ok (.iload_n 1, 1) := by decide +kernel
theorem dX9_entry_65 : decode cX9_entry 65 = .ok (.iaload, 1) := by decide +kernel
theorem dX9_entry_66 : decode cX9_entry 66 = .ok (.i2l, 1) := by decide +kernel
theorem dX9_entry_67 : decode cX9_entry 67 = .ok (.lreturn, 1) := by decide +kernel
theorem dX9_entry_68 : decode cX9_entry 68 = .ok (.aload_n 0, 1) := by decide +kernel
theorem dX9_entry_69 : decode cX9_entry 69 = .ok (.getfield 75, 3) := by decide +kernel
theorem dX9_entry_72 : decode cX9_entry 72 = .ok (.iload_n 1, 1) := by decide +kernel
theorem dX9_entry_73 : decode cX9_entry 73 = .ok (.iaload, 1) := by decide +kernel
theorem dX9_entry_74 : decode cX9_entry 74 = .ok (.i2l, 1) := by decide +kernel
theorem dX9_entry_75 : decode cX9_entry 75 = .ok (.lreturn, 1) := by decide +kernel
theorem dX9_entry_76 : decode cX9_entry 76 = .ok (.aload_n 0, 1) := by decide +kernel
theorem dX9_entry_77 : decode cX9_entry 77 = .ok (.getfield 72, 3) := by decide +kernel
theorem dX9_entry_80 : decode cX9_entry 80 = .ok (.iload_n 1, 1) := by decide +kernel
theorem dX9_entry_81 : decode cX9_entry 81 = .ok (.iaload, 1) := by decide +kernel
theorem dX9_entry_82 : decode cX9_entry 82 = .ok (.i2l, 1) := by decide +kernel
theorem dX9_entry_83 : decode cX9_entry 83 = .ok (.lreturn, 1) := by decide +kernel
theorem dX9_entry_84 : decode cX9_entry 84 = .ok (.aload_n 0, 1) := by decide +kernel
theorem dX9_entry_85 : decode cX9_entry 85 = .ok (.getfield 42, 3) := by decide +kernel
theorem dX9_entry_88 : decode cX9_entry 88 = .ok (.iload_n 1, 1) := by decide +kernel
theorem dX9_entry_89 : decode cX9_entry 89 = .ok (.laload, 1) := by decide +kernel
theorem dX9_entry_90 : decode cX9_entry 90 = .ok (.lreturn, 1) := by decide +kernel
theorem dX9_entry_91 : decode cX9_entry 91 = .ok (.aload_n 0, 1) := by decide +kernel
theorem dX9_entry_92 : decode cX9_entry 92 = .ok (.getfield 45, 3) := by decide +kernel
theorem dX9_entry_95 : decode cX9_entry 95 = .ok (.iload_n 1, 1) := by decide +kernel
theorem dX9_entry_96 : decode cX9_entry 96 = .ok (.iaload, 1) := by decide +kernel
theorem dX9_entry_97 : decode cX9_entry 97 = .ok (.i2l, 1) := by decide +kernel
theorem dX9_entry_98 : decode cX9_entry 98 = .ok (.lreturn, 1) := by decide +kernel
theorem dX9_entry_99 : decode cX9_entry 99 = .ok (.aload_n 0, 1) := by decide +kernel
theorem dX9_entry_100 : decode cX9_entry 100 = .ok (.getfield 63, 3) := by decide +kernel
theorem dX9_entry_103 : decode cX9_entry 103 = .ok (.iload_n 1, 1) := by decide +kernel
theorem dX9_entry_104 : decode cX9_entry 104 = .ok (.iaload, 1) := by decide +kernel
theorem dX9_entry_105 : decode cX9_entry 105 = .ok (.i2l, 1) := by decide +kernel
theorem dX9_entry_106 : decode cX9_entry 106 = .ok (.lreturn, 1) := by decide +kernel
theorem dX9_entry_107 : decode cX9_entry 107 = .ok (.iload_n 2, 1) := by decide +kernel
theorem dX9_entry_108 : decode cX9_entry 108 = .ok (.bipush 10, 2) := by decide +kernel
theorem dX9_entry_110 : decode cX9_entry 110 = .ok (.bipush 9, 2) := by decide +kernel
theorem dX9_entry_112 : decode cX9_entry 112 = .ok (.aload_n 0, 1) := by decide +kernel
theorem dX9_entry_113 : decode cX9_entry 113 = .ok (.getfield 45, 3) := by decide +kernel
theorem dX9_entry_116 : decode cX9_entry 116 = .ok (.iload_n 1, 1) := by decide +kernel
theorem dX9_entry_117 : decode cX9_entry 117 = .ok (.iaload, 1) := by decide +kernel
theorem dX9_entry_118 : decode cX9_entry 118 = .ok (.iadd, 1) := by decide +kernel
theorem dX9_entry_119 : decode cX9_entry 119 = .ok (.invokestatic 311, 3) := by decide +kernel
theorem dX9_entry_122 : decode cX9_entry 122 = .ok (.ifCond .eq 19, 3) := by decide +kernel
theorem dX9_entry_125 : decode cX9_entry 125 = .ok (.aload_n 0, 1) := by decide +kernel
theorem dX9_entry_126 : decode cX9_entry 126 = .ok (.getfield 48, 3) := by decide +kernel
theorem dX9_entry_129 : decode cX9_entry 129 = .ok (.bipush 8, 2) := by decide +kernel
theorem dX9_entry_131 : decode cX9_entry 131 = .ok (.iload_n 1, 1) := by decide +kernel
theorem dX9_entry_132 : decode cX9_entry 132 = .ok (.imul, 1) := by decide +kernel
theorem dX9_entry_133 : decode cX9_entry 133 = .ok (.iload_n 2, 1) := by decide +kernel
theorem dX9_entry_134 : decode cX9_entry 134 = .ok (.iadd, 1) := by decide +kernel
theorem dX9_entry_135 : decode cX9_entry 135 = .ok (.bipush 10, 2) := by decide +kernel
theorem dX9_entry_137 : decode cX9_entry 137 = .ok (.isub, 1) := by decide +kernel
theorem dX9_entry_138 : decode cX9_entry 138 = .ok (.iaload, 1) := by decide +kernel
theorem dX9_entry_139 : decode cX9_entry 139 = .ok (.i2l, 1) := by decide +kernel
theorem dX9_entry_140 : decode cX9_entry 140 = .ok (.lreturn, 1) := by decide +kernel
theorem dX9_entry_141 : decode cX9_entry 141 = .ok (.iload_n 2, 1) := by decide +kernel
theorem dX9_entry_142 : decode cX9_entry 142 = .ok (.bipush 30, 2) := by decide +kernel
theorem dX9_entry_144 : decode cX9_entry 144 = .ok (.bipush 29, 2) := by decide +kernel
theorem dX9_entry_146 : decode cX9_entry 146 = .ok (.aload_n 0, 1) := by decide +kernel
theorem dX9_entry_147 : decode cX9_entry 147 = .ok (.getfield 45, 3) := by decide +kernel
theorem dX9_entry_150 : decode cX9_entry 150 = .ok (.iload_n 1, 1) := by decide +kernel
theorem dX9_entry_151 : decode cX9_entry 151 = .ok (.iaload, 1) := by decide +kernel
theorem dX9_entry_152 : decode cX9_entry 152 = .ok (.iadd, 1) := by decide +kernel
theorem dX9_entry_153 : decode cX9_entry 153 = .ok (.invokestatic 311, 3) := by decide +kernel
theorem dX9_entry_156 : decode cX9_entry 156 = .ok (.ifCond .eq 20, 3) := by decide +kernel
theorem dX9_entry_159 : decode cX9_entry 159 = .ok (.aload_n 0, 1) := by decide +kernel
theorem dX9_entry_160 : decode cX9_entry 160 = .ok (.getfield 51, 3) := by decide +kernel
theorem dX9_entry_163 : decode cX9_entry 163 = .ok (.bipush 8, 2) := by decide +kernel
theorem dX9_entry_165 : decode cX9_entry 165 = .ok (.iload_n 1, 1) := by decide +kernel
theorem dX9_entry_166 : decode cX9_entry 166 = .ok (.imul, 1) := by decide +kernel
theorem dX9_entry_167 : decode cX9_entry 167 = .ok (.iload_n 2, 1) := by decide +kernel
theorem dX9_entry_168 : decode cX9_entry 168 = .ok (.iadd, 1) := by decide +kernel
theorem dX9_entry_169 : decode cX9_entry 169 = .ok (.bipush 30, 2) := by decide +kernel
theorem dX9_entry_171 : decode cX9_entry 171 = .ok (.isub, 1) := by decide +kernel
theorem dX9_entry_172 : decode cX9_entry 172 = .ok (.laload, 1) := by decide +kernel
theorem dX9_entry_173 : decode cX9_entry 173 = .ok (.goto 6, 3) := by decide +kernel
theorem dX9_entry_176 : decode cX9_entry 176 = .ok (.ldc2_w 315, 3) := by decide +kernel
theorem dX9_entry_179 : decode cX9_entry 179 = .ok (.lreturn, 1) := by decide +kernel
theorem dX9_data_0 : decode cX9_data 0 = .ok (.iload_n 1, 1) := by decide +kernel
theorem dX9_data_1 : decode cX9_data 1 = .ok (.iconst 0, 1) := by decide +kernel
theorem dX9_data_2 : decode cX9_data 2 = .ok (.aload_n 0, 1) := by decide +kernel
theorem dX9_data_3 : decode cX9_data 3 = .ok (.getfield 285, 3) := by decide +kernel
theorem dX9_data_6 : decode cX9_data 6 = .ok (.iconst 1, 1) := by decide +kernel
theorem dX9_data_7 : decode cX9_data 7 = .ok (.isub, 1) := by decide +kernel
theorem dX9_data_8 : decode cX9_data 8 = .ok (.invokestatic 311, 3) := by decide +kernel
theorem dX9_data_11 : decode cX9_data 11 = .ok (.ifCond .eq 12, 3) := by decide +kernel
theorem dX9_data_14 : decode cX9_data 14 = .ok (.aload_n 0, 1) := by decide +kernel
theorem dX9_data_15 : decode cX9_data 15 = .ok (.getfield 66, 3) := by decide +kernel
theorem dX9_data_18 : decode cX9_data 18 = .ok (.iload_n 1, 1) := by decide +kernel
theorem dX9_data_19 : decode cX9_data 19 = .ok (.iaload, 1) := by decide +kernel
theorem dX9_data_20 : decode cX9_data 20 = .ok (.goto 4, 3) := by decide +kernel
theorem dX9_data_23 : decode cX9_data 23 = .ok (.iconst (-1), 1) := by decide +kernel
theorem dX9_data_24 : decode cX9_data 24 = .ok (.ireturn, 1) := by decide +kernel
theorem dX9_alter_0 : decode cX9_alter 0 = .ok (.iload_n 1, 1) := by decide +kernel
theorem dX9_alter_1 : decode cX9_alter 1 = .ok (.iconst 0, 1) := by decide +kernel
theorem dX9_alter_2 : decode cX9_alter 2 = .ok (.aload_n 0, 1) := by decide +kernel
theorem dX9_alter_3 : decode cX9_alter 3 = .ok (.getfield 285, 3) := by decide +kernel
theorem dX9_alter_6 : decode cX9_alter 6 = .ok (.iconst 1, 1) := by decide +kernel
theorem dX9_alter_7 : decode cX9_alter 7 = .ok (.isub, 1) := by decide +kernel
theorem dX9_alter_8 : decode cX9_alter 8 = .ok (.invokestatic 311, 3) := by decide +kernel
theorem dX9_alter_11 : decode cX9_alter 11 = .ok (.ifCond .eq 14, 3) := by decide +kernel
theorem dX9_alter_14 : decode cX9_alter 14 = .ok (.iload_n 2, 1) := by decide +kernel
theorem dX9_alter_15 : decode cX9_alter 15 = .ok (.iconst 1, 1) := by decide +kernel
theorem dX9_alter_16 : decode cX9_alter 16 = .ok (.sipush 255, 3) := by decide +kernel
theorem dX9_alter_19 : decode cX9_alter 19 = .ok (.invokestatic 311, 3) := by decide +kernel
theorem dX9_alter_22 : decode cX9_alter 22 = .ok (.ifCond .ne 5, 3) := by decide +kernel
theorem dX9_alter_25 : decode cX9_alter 25 = .ok (.iconst (-1), 1) := by decide +kernel
theorem dX9_alter_26 : decode cX9_alter 26 = .ok (.ireturn, 1) := by decide +kernel
theorem dX9_alter_27 : decode cX9_alter 27 = .ok (.aload_n 0, 1) := by decide +kernel
theorem dX9_alter_28 : decode cX9_alter 28 = .ok (.getfield 66, 3) := by decide +kernel
theorem dX9_alter_31 : decode cX9_alter 31 = .ok (.iload_n 1, 1) := by decide +kernel
theorem dX9_alter_32 : decode cX9_alter 32 = .ok (.dup2, 1) := by decide +kernel
theorem dX9_alter_33 : decode cX9_alter 33 = .ok (.iaload, 1) := by decide +kernel
theorem dX9_alter_34 : decode cX9_alter 34 = .ok (.iload_n 2, 1) := by decide +kernel
theorem dX9_alter_35 : decode cX9_alter 35 = .ok (.ixor, 1) := by decide +kernel
theorem dX9_alter_36 : decode cX9_alter 36 = .ok (.iastore, 1) := by decide +kernel
theorem dX9_alter_37 : decode cX9_alter 37 = .ok (.aload_n 0, 1) := by decide +kernel
theorem dX9_alter_38 : decode cX9_alter 38 = .ok (.getfield 66, 3) := by decide +kernel
theorem dX9_alter_41 : decode cX9_alter 41 = .ok (.iload_n 1, 1) := by decide +kernel
theorem dX9_alter_42 : decode cX9_alter 42 = .ok (.iaload, 1) := by decide +kernel
theorem dX9_alter_43 : decode cX9_alter 43 = .ok (.ireturn, 1) := by decide +kernel
theorem dX9_turn_0 : decode cX9_turn 0 = .ok (.iload_n 0, 1) := by decide +kernel
theorem dX9_turn_1 : decode cX9_turn 1 = .ok (.iload_n 1, 1) := by decide +kernel
theorem dX9_turn_2 : decode cX9_turn 2 = .ok (.iushr, 1) := by decide +kernel
theorem dX9_turn_3 : decode cX9_turn 3 = .ok (.iload_n 0, 1) := by decide +kernel
theorem dX9_turn_4 : decode cX9_turn 4 = .ok (.bipush 32, 2) := by decide +kernel
theorem dX9_turn_6 : decode cX9_turn 6 = .ok (.iload_n 1, 1) := by decide +kernel
theorem dX9_turn_7 : decode cX9_turn 7 = .ok (.isub, 1) := by decide +kernel
theorem dX9_turn_8 : decode cX9_turn 8 = .ok (.ishl, 1) := by decide +kernel
theorem dX9_turn_9 : decode cX9_turn 9 = .ok (.ior, 1) := by decide +kernel
theorem dX9_turn_10 : decode cX9_turn 10 = .ok (.ireturn, 1) := by decide +kernel
theorem dX9_says_0 : decode cX9_says 0 = .ok (.aload_n 0, 1) := by decide +kernel
theorem dX9_says_1 : decode cX9_says 1 = .ok (.getfield 169, 3) := by decide +kernel
theorem dX9_says_4 : decode cX9_says 4 = .ok (.aload_n 0, 1) := by decide +kernel
theorem dX9_says_5 : decode cX9_says 5 = .ok (.getfield 327, 3) := by decide +kernel
theorem dX9_says_8 : decode cX9_says 8 = .ok (.iload_n 1, 1) := by decide +kernel
theorem dX9_says_9 : decode cX9_says 9 = .ok (.iastore, 1) := by decide +kernel
theorem dX9_says_10 : decode cX9_says 10 = .ok (.aload_n 0, 1) := by decide +kernel
theorem dX9_says_11 : decode cX9_says 11 = .ok (.dup, 1) := by decide +kernel
theorem dX9_says_12 : decode cX9_says 12 = .ok (.getfield 327, 3) := by decide +kernel
theorem dX9_says_15 : decode cX9_says 15 = .ok (.iconst 1, 1) := by decide +kernel
theorem dX9_says_16 : decode cX9_says 16 = .ok (.iadd, 1) := by decide +kernel
theorem dX9_says_17 : decode cX9_says 17 = .ok (.putfield 327, 3) := by decide +kernel
theorem dX9_says_20 : decode cX9_says 20 = .ok (.return_, 1) := by decide +kernel
theorem dX9_sum_0 : decode cX9_sum 0 = .ok (.aload_n 0, 1) := by decide +kernel
theorem dX9_sum_1 : decode cX9_sum 1 = .ok (.getfield 327, 3) := by decide +kernel
theorem dX9_sum_4 : decode cX9_sum 4 = .ok (.istore_n 1, 1) := by decide +kernel
theorem dX9_sum_5 : decode cX9_sum 5 = .ok (.aload_n 0, 1) := by decide +kernel
theorem dX9_sum_6 : decode cX9_sum 6 = .ok (.sipush 128, 3) := by decide +kernel
theorem dX9_sum_9 : decode cX9_sum 9 = .ok (.invokevirtual 330, 3) := by decide +kernel
theorem dX9_sum_12 : decode cX9_sum 12 = .ok (.aload_n 0, 1) := by decide +kernel
theorem dX9_sum_13 : decode cX9_sum 13 = .ok (.getfield 327, 3) := by decide +kernel
theorem dX9_sum_16 : decode cX9_sum 16 = .ok (.bipush 64, 2) := by decide +kernel
theorem dX9_sum_18 : decode cX9_sum 18 = .ok (.irem, 1) := by decide +kernel
theorem dX9_sum_19 : decode cX9_sum 19 = .ok (.bipush 56, 2) := by decide +kernel
theorem dX9_sum_21 : decode cX9_sum 21 = .ok (.if_icmp .eq 11, 3) := by decide +kernel
theorem dX9_sum_24 : decode cX9_sum 24 = .ok (.aload_n 0, 1) := by decide +kernel
theorem dX9_sum_25 : decode cX9_sum 25 = .ok (.iconst 0, 1) := by decide +kernel
theorem dX9_sum_26 : decode cX9_sum 26 = .ok (.invokevirtual 330, 3) := by decide +kernel
theorem dX9_sum_29 : decode cX9_sum 29 = .ok (.goto (-17), 3) := by decide +kernel
theorem dX9_sum_32 : decode cX9_sum 32 = .ok (.iconst 0, 1) := by decide +kernel
theorem dX9_sum_33 : decode cX9_sum 33 = .ok (.istore_n 2, 1) := by decide +kernel
theorem dX9_sum_34 : decode cX9_sum 34 = .ok (.iload_n 2, 1) := by decide +kernel
theorem dX9_sum_35 : decode cX9_sum 35 = .ok (.iconst 4, 1) := by decide +kernel
theorem dX9_sum_36 : decode cX9_sum 36 = .ok (.if_icmp .ge 14, 3) := by decide +kernel
theorem dX9_sum_39 : decode cX9_sum 39 = .ok (.aload_n 0, 1) := by decide +kernel
theorem dX9_sum_40 : decode cX9_sum 40 = .ok (.iconst 0, 1) := by decide +kernel
theorem dX9_sum_41 : decode cX9_sum 41 = .ok (.invokevirtual 330, 3) := by decide +kernel
theorem dX9_sum_44 : decode cX9_sum 44 = .ok (.iinc 2 1, 3) := by decide +kernel
theorem dX9_sum_47 : decode cX9_sum 47 = .ok (.goto (-13), 3) := by decide +kernel
theorem dX9_sum_50 : decode cX9_sum 50 = .ok (.bipush 24, 2) := by decide +kernel
theorem dX9_sum_52 : decode cX9_sum 52 = .ok (.istore_n 2, 1) := by decide +kernel
theorem dX9_sum_53 : decode cX9_sum 53 = .ok (.iload_n 2, 1) := by decide +kernel
theorem dX9_sum_54 : decode cX9_sum 54 = .ok (.ifCond .lt 23, 3) := by decide +kernel
theorem dX9_sum_57 : decode cX9_sum 57 = .ok (.aload_n 0, 1) := by decide +kernel
theorem dX9_sum_58 : decode cX9_sum 58 = .ok (.bipush 8, 2) := by decide +kernel
theorem dX9_sum_60 : decode cX9_sum 60 = .ok (.iload_n 1, 1) := by decide +kernel
theorem dX9_sum_61 : decode cX9_sum 61 = .ok (.imul, 1) := by decide +kernel
theorem dX9_sum_62 : decode cX9_sum 62 = .ok (.iload_n 2, 1) := by decide +kernel
theorem dX9_sum_63 : decode cX9_sum 63 = .ok (.ishr, 1) := by decide +kernel
theorem dX9_sum_64 : decode cX9_sum 64 = .ok (.sipush 255, 3) := by decide +kernel
theorem dX9_sum_67 : decode cX9_sum 67 = .ok (.iand, 1) := by decide +kernel
theorem dX9_sum_68 : decode cX9_sum 68 = .ok (.invokevirtual 330, 3) := by decide +kernel
theorem dX9_sum_71 : decode cX9_sum 71 = .ok (.iinc 2 (-8), 3) := by decide +kernel
theorem dX9_sum_74 : decode cX9_sum 74 = .ok (.goto (-21), 3) := by decide +kernel
theorem dX9_sum_77 : decode cX9_sum 77 = .ok (.aload_n 0, 1) := by decide +kernel
theorem dX9_sum_78 : decode cX9_sum 78 = .ok (.getfield 175, 3) := by decide +kernel
theorem dX9_sum_81 : decode cX9_sum 81 = .ok (.iconst 0, 1) := by decide +kernel
theorem dX9_sum_82 : decode cX9_sum 82 = .ok (.ldc_w 333, 3) := by decide +kernel
theorem dX9_sum_85 : decode cX9_sum 85 = .ok (.iastore, 1) := by decide +kernel
theorem dX9_sum_86 : decode cX9_sum 86 = .ok (.aload_n 0, 1) := by decide +kernel
theorem dX9_sum_87 : decode cX9_sum 87 = .ok (.getfield 175, 3) := by decide +kernel
theorem dX9_sum_90 : decode cX9_sum 90 = .ok (.iconst 1, 1) := by decide +kernel
theorem dX9_sum_91 : decode cX9_sum 91 = .ok (.ldc_w 334, 3) := by decide +kernel
theorem dX9_sum_94 : decode cX9_sum 94 = .ok (.iastore, 1) := by decide +kernel
theorem dX9_sum_95 : decode cX9_sum 95 = .ok (.aload_n 0, 1) := by decide +kernel
theorem dX9_sum_96 : decode cX9_sum 96 = .ok (.getfield 175, 3) := by decide +kernel
theorem dX9_sum_99 : decode cX9_sum 99 = .ok (.iconst 2, 1) := by decide +kernel
theorem dX9_sum_100 : decode cX9_sum 100 = .ok (.ldc_w 335, 3) := by decide +kernel
theorem dX9_sum_103 : decode cX9_sum 103 = .ok (.iastore, 1) := by decide +kernel
theorem dX9_sum_104 : decode cX9_sum 104 = .ok (.aload_n 0, 1) := by decide +kernel
theorem dX9_sum_105 : decode cX9_sum 105 = .ok (.getfield 175, 3) := by decide +kernel
theorem dX9_sum_108 : decode cX9_sum 108 = .ok (.iconst 3, 1) := by decide +kernel
theorem dX9_sum_109 : decode cX9_sum 109 = .ok (.ldc_w 336, 3) := by decide +kernel
theorem dX9_sum_112 : decode cX9_sum 112 = .ok (.iastore, 1) := by decide +kernel
theorem dX9_sum_113 : decode cX9_sum 113 = .ok (.aload_n 0, 1) := by decide +kernel
theorem dX9_sum_114 : decode cX9_sum 114 = .ok (.getfield 175, 3) := by decide +kernel
theorem dX9_sum_117 : decode cX9_sum 117 = .ok (.iconst 4, 1) := by decide +kernel
theorem dX9_sum_118 : decode cX9_sum 118 = .ok (.ldc_w 337, 3) := by decide +kernel
theorem dX9_sum_121 : decode cX9_sum 121 = .ok (.iastore, 1) := by decide +kernel
theorem dX9_sum_122 : decode cX9_sum 122 = .ok (.aload_n 0, 1) := by decide +kernel
theorem dX9_sum_123 : decode cX9_sum 123 = .ok (.getfield 175, 3) := by decide +kernel
theorem dX9_sum_126 : decode cX9_sum 126 = .ok (.iconst 5, 1) := by decide +kernel
theorem dX9_sum_127 : decode cX9_sum 127 = .ok (.ldc_w 338, 3) := by decide +kernel
theorem dX9_sum_130 : decode cX9_sum 130 = .ok (.iastore, 1) := by decide +kernel
theorem dX9_sum_131 : decode cX9_sum 131 = .ok (.aload_n 0, 1) := by decide +kernel
theorem dX9_sum_132 : decode cX9_sum 132 = .ok (.getfield 175, 3) := by decide +kernel
theorem dX9_sum_135 : decode cX9_sum 135 = .ok (.bipush 6, 2) := by decide +kernel
theorem dX9_sum_137 : decode cX9_sum 137 = .ok (.ldc_w 339, 3) := by decide +kernel
theorem dX9_sum_140 : decode cX9_sum 140 = .ok (.iastore, 1) := by decide +kernel
theorem dX9_sum_141 : decode cX9_sum 141 = .ok (.aload_n 0, 1) := by decide +kernel
theorem dX9_sum_142 : decode cX9_sum 142 = .ok (.getfield 175, 3) := by decide +kernel
theorem dX9_sum_145 : decode cX9_sum 145 = .ok (.bipush 7, 2) := by decide +kernel
theorem dX9_sum_147 : decode cX9_sum 147 = .ok (.ldc_w 340, 3) := by decide +kernel
theorem dX9_sum_150 : decode cX9_sum 150 = .ok (.iastore, 1) := by decide +kernel
theorem dX9_sum_151 : decode cX9_sum 151 = .ok (.iconst 0, 1) := by decide +kernel
theorem dX9_sum_152 : decode cX9_sum 152 = .ok (.istore_n 2, 1) := by decide +kernel
theorem dX9_sum_153 : decode cX9_sum 153 = .ok (.iload_n 2, 1) := by decide +kernel
theorem dX9_sum_154 : decode cX9_sum 154 = .ok (.aload_n 0, 1) := by decide +kernel
theorem dX9_sum_155 : decode cX9_sum 155 = .ok (.getfield 327, 3) := by decide +kernel
theorem dX9_sum_158 : decode cX9_sum 158 = .ok (.if_icmp .ge 14, 3) := by decide +kernel
theorem dX9_sum_161 : decode cX9_sum 161 = .ok (.aload_n 0, 1) := by decide +kernel
theorem dX9_sum_162 : decode cX9_sum 162 = .ok (.iload_n 2, 1) := by decide +kernel
theorem dX9_sum_163 : decode cX9_sum 163 = .ok (.invokevirtual 341, 3) := by decide +kernel
theorem dX9_sum_166 : decode cX9_sum 166 = .ok (.iinc 2 64, 3) := by decide +kernel
theorem dX9_sum_169 : decode cX9_sum 169 = .ok (.goto (-16), 3) := by decide +kernel
theorem dX9_sum_172 : decode cX9_sum 172 = .ok (.iconst 0, 1) := by decide +kernel
theorem dX9_sum_173 : decode cX9_sum 173 = .ok (.istore_n 2, 1) := by decide +kernel
theorem dX9_sum_174 : decode cX9_sum 174 = .ok (.iload_n 2, 1) := by decide +kernel
theorem dX9_sum_175 : decode cX9_sum 175 = .ok (.bipush 32, 2) := by decide +kernel
theorem dX9_sum_177 : decode cX9_sum 177 = .ok (.if_icmp .ge 37, 3) := by decide +kernel
theorem dX9_sum_180 : decode cX9_sum 180 = .ok (.aload_n 0, 1) := by decide +kernel
theorem dX9_sum_181 : decode cX9_sum 181 = .ok (.getfield 178, 3) := by decide +kernel
theorem dX9_sum_184 : decode cX9_sum 184 = .ok (.iload_n 2, 1) := by decide +kernel
theorem dX9_sum_185 : decode cX9_sum 185 = .ok (.aload_n 0, 1) := by decide +kernel
theorem dX9_sum_186 : decode cX9_sum 186 = .ok (.getfield 175, 3) := by decide +kernel
theorem dX9_sum_189 : decode cX9_sum 189 = .ok (.iload_n 2, 1) := by decide +kernel
theorem dX9_sum_190 : decode cX9_sum 190 = .ok (.iconst 4, 1) := by decide +kernel
theorem dX9_sum_191 : decode cX9_sum 191 = .ok (.idiv, 1) := by decide +kernel
theorem dX9_sum_192 : decode cX9_sum 192 = .ok (.iaload, 1) := by decide +kernel
theorem dX9_sum_193 : decode cX9_sum 193 = .ok (.bipush 24, 2) := by decide +kernel
theorem dX9_sum_195 : decode cX9_sum 195 = .ok (.bipush 8, 2) := by decide +kernel
theorem dX9_sum_197 : decode cX9_sum 197 = .ok (.iload_n 2, 1) := by decide +kernel
theorem dX9_sum_198 : decode cX9_sum 198 = .ok (.iconst 4, 1) := by decide +kernel
theorem dX9_sum_199 : decode cX9_sum 199 = .ok (.irem, 1) := by decide +kernel
theorem dX9_sum_200 : decode cX9_sum 200 = .ok (.imul, 1) := by decide +kernel
theorem dX9_sum_201 : decode cX9_sum 201 = .ok (.isub, 1) := by decide +kernel
theorem dX9_sum_202 : decode cX9_sum 202 = .ok (.ishr, 1) := by decide +kernel
theorem dX9_sum_203 : decode cX9_sum 203 = .ok (.sipush 255, 3) := by decide +kernel
theorem dX9_sum_206 : decode cX9_sum 206 = .ok (.iand, 1) := by decide +kernel
theorem dX9_sum_207 : decode cX9_sum 207 = .ok (.iastore, 1) := by decide +kernel
theorem dX9_sum_208 : decode cX9_sum 208 = .ok (.iinc 2 1, 3) := by decide +kernel
theorem dX9_sum_211 : decode cX9_sum 211 = .ok (.goto (-37), 3) := by decide +kernel
theorem dX9_sum_214 : decode cX9_sum 214 = .ok (.aload_n 0, 1) := by decide +kernel
theorem dX9_sum_215 : decode cX9_sum 215 = .ok (.iconst 0, 1) := by decide +kernel
theorem dX9_sum_216 : decode cX9_sum 216 = .ok (.putfield 327, 3) := by decide +kernel
theorem dX9_sum_219 : decode cX9_sum 219 = .ok (.return_, 1) := by decide +kernel
theorem dX9_block_0 : decode cX9_block 0 = .ok (.iconst 0, 1) := by decide +kernel
theorem dX9_block_1 : decode cX9_block 1 = .ok (.istore_n 2, 1) := by decide +kernel
theorem dX9_block_2 : decode cX9_block 2 = .ok (.iload_n 2, 1) := by decide +kernel
theorem dX9_block_3 : decode cX9_block 3 = .ok (.bipush 16, 2) := by decide +kernel
theorem dX9_block_5 : decode cX9_block 5 = .ok (.if_icmp .ge 52, 3) := by decide +kernel
theorem dX9_block_8 : decode cX9_block 8 = .ok (.iconst 0, 1) := by decide +kernel
theorem dX9_block_9 : decode cX9_block 9 = .ok (.istore_n 3, 1) := by decide +kernel
theorem dX9_block_10 : decode cX9_block 10 = .ok (.iconst 0, 1) := by decide +kernel
theorem dX9_block_11 : decode cX9_block 11 = .ok (.istore 4, 2) := by decide +kernel
theorem dX9_block_13 : decode cX9_block 13 = .ok (.iload 4, 2) := by decide +kernel
theorem dX9_block_15 : decode cX9_block 15 = .ok (.iconst 4, 1) := by decide +kernel
theorem dX9_block_16 : decode cX9_block 16 = .ok (.if_icmp .ge 28, 3) := by decide +kernel
theorem dX9_block_19 : decode cX9_block 19 = .ok (.iload_n 3, 1) := by decide +kernel
theorem dX9_block_20 : decode cX9_block 20 = .ok (.bipush 8, 2) := by decide +kernel
theorem dX9_block_22 : decode cX9_block 22 = .ok (.ishl, 1) := by decide +kernel
theorem dX9_block_23 : decode cX9_block 23 = .ok (.aload_n 0, 1) := by decide +kernel
theorem dX9_block_24 : decode cX9_block 24 = .ok (.getfield 169, 3) := by decide +kernel
theorem dX9_block_27 : decode cX9_block 27 = .ok (.iload_n 1, 1) := by decide +kernel
theorem dX9_block_28 : decode cX9_block 28 = .ok (.iconst 4, 1) := by decide +kernel
theorem dX9_block_29 : decode cX9_block 29 = .ok (.iload_n 2, 1) := by decide +kernel
theorem dX9_block_30 : decode cX9_block 30 = .ok (.imul, 1) := by decide +kernel
theorem dX9_block_31 : decode cX9_block 31 = .ok (.iadd, 1) := by decide +kernel
theorem dX9_block_32 : decode cX9_block 32 = .ok (.iload 4, 2) := by decide +kernel
theorem dX9_block_34 : decode cX9_block 34 = .ok (.iadd, 1) := by decide +kernel
theorem dX9_block_35 : decode cX9_block 35 = .ok (.iaload, 1) := by decide +kernel
theorem dX9_block_36 : decode cX9_block 36 = .ok (.ior, 1) := by decide +kernel
theorem dX9_block_37 : decode cX9_block 37 = .ok (.istore_n 3, 1) := by decide +kernel
theorem dX9_block_38 : decode cX9_block 38 = .ok (.iinc 4 1, 3) := by decide +kernel
theorem dX9_block_41 : decode cX9_block 41 = .ok (.goto (-28), 3) := by decide +kernel
theorem dX9_block_44 : decode cX9_block 44 = .ok (.aload_n 0, 1) := by decide +kernel
theorem dX9_block_45 : decode cX9_block 45 = .ok (.getfield 172, 3) := by decide +kernel
theorem dX9_block_48 : decode cX9_block 48 = .ok (.iload_n 2, 1) := by decide +kernel
theorem dX9_block_49 : decode cX9_block 49 = .ok (.iload_n 3, 1) := by decide +kernel
theorem dX9_block_50 : decode cX9_block 50 = .ok (.iastore, 1) := by decide +kernel
theorem dX9_block_51 : decode cX9_block 51 = .ok (.iinc 2 1, 3) := by decide +kernel
theorem dX9_block_54 : decode cX9_block 54 = .ok (.goto (-52), 3) := by decide +kernel
theorem dX9_block_57 : decode cX9_block 57 = .ok (.bipush 16, 2) := by decide +kernel
theorem dX9_block_59 : decode cX9_block 59 = .ok (.istore_n 2, 1) := by decide +kernel
theorem dX9_block_60 : decode cX9_block 60 = .ok (.iload_n 2, 1) := by decide +kernel
theorem dX9_block_61 : decode cX9_block 61 = .ok (.bipush 64, 2) := by decide +kernel
theorem dX9_block_63 : decode cX9_block 63 = .ok (.if_icmp .ge 102, 3) := by decide +kernel
theorem dX9_block_66 : decode cX9_block 66 = .ok (.aload_n 0, 1) := by decide +kernel
theorem dX9_block_67 : decode cX9_block 67 = .ok (.getfield 172, 3) := by decide +kernel
theorem dX9_block_70 : decode cX9_block 70 = .ok (.iload_n 2, 1) := by decide +kernel
theorem dX9_block_71 : decode cX9_block 71 = .ok (.bipush 15, 2) := by decide +kernel
theorem dX9_block_73 : decode cX9_block 73 = .ok (.isub, 1) := by decide +kernel
theorem dX9_block_74 : decode cX9_block 74 = .ok (.iaload, 1) := by decide +kernel
theorem dX9_block_75 : decode cX9_block 75 = .ok (.istore_n 3, 1) := by decide +kernel
theorem dX9_block_76 : decode cX9_block 76 = .ok (.aload_n 0, 1) := by decide +kernel
theorem dX9_block_77 : decode cX9_block 77 = .ok (.getfield 172, 3) := by decide +kernel
theorem dX9_block_80 : decode cX9_block 80 = .ok (.iload_n 2, 1) := by decide +kernel
theorem dX9_block_81 : decode cX9_block 81 = .ok (.iconst 2, 1) := by decide +kernel
theorem dX9_block_82 : decode cX9_block 82 = .ok (.isub, 1) := by decide +kernel
theorem dX9_block_83 : decode cX9_block 83 = .ok (.iaload, 1) := by decide +kernel
theorem dX9_block_84 : decode cX9_block 84 = .ok (.istore 4, 2) := by decide +kernel
theorem dX9_block_86 : decode cX9_block 86 = .ok (.iload_n 3, 1) := by decide +kernel
theorem dX9_block_87 : decode cX9_block 87 = .ok (.bipush 7, 2) := by decide +kernel
theorem dX9_block_89 : decode cX9_block 89 = .ok (.invokestatic 344, 3) := by decide +kernel
theorem dX9_block_92 : decode cX9_block 92 = .ok (.iload_n 3, 1) := by decide +kernel
theorem dX9_block_93 : decode cX9_block 93 = .ok (.bipush 18, 2) := by decide +kernel
theorem dX9_block_95 : decode cX9_block 95 = .ok (.invokestatic 344, 3) := by decide +kernel
theorem dX9_block_98 : decode cX9_block 98 = .ok (.ixor, 1) := by decide +kernel
theorem dX9_block_99 : decode cX9_block 99 = .ok (.iload_n 3, 1) := by decide +kernel
theorem dX9_block_100 : decode cX9_block 100 = .ok (.iconst 3, 1) := by decide +kernel
theorem dX9_block_101 : decode cX9_block 101 = .ok (.iushr, 1) := by decide +kernel
theorem dX9_block_102 : decode cX9_block 102 = .ok (.ixor, 1) := by decide +kernel
theorem dX9_block_103 : decode cX9_block 103 = .ok (.istore 5, 2) := by decide +kernel
theorem dX9_block_105 : decode cX9_block 105 = .ok (.iload 4, 2) := by decide +kernel
theorem dX9_block_107 : decode cX9_block 107 = .ok (.bipush 17, 2) := by decide +kernel
theorem dX9_block_109 : decode cX9_block 109 = .ok (.invokestatic 344, 3) := by decide +kernel
theorem dX9_block_112 : decode cX9_block 112 = .ok (.iload 4, 2) := by decide +kernel
theorem dX9_block_114 : decode cX9_block 114 = .ok (.bipush 19, 2) := by decide +kernel
theorem dX9_block_116 : decode cX9_block 116 = .ok (.invokestatic 344, 3) := by decide +kernel
theorem dX9_block_119 : decode cX9_block 119 = .ok (.ixor, 1) := by decide +kernel
theorem dX9_block_120 : decode cX9_block 120 = .ok (.iload 4, 2) := by decide +kernel
theorem dX9_block_122 : decode cX9_block 122 = .ok (.bipush 10, 2) := by decide +kernel
theorem dX9_block_124 : decode cX9_block 124 = .ok (.iushr, 1) := by decide +kernel
theorem dX9_block_125 : decode cX9_block 125 = .ok (.ixor, 1) := by decide +kernel
theorem dX9_block_126 : decode cX9_block 126 = .ok (.istore 6, 2) := by decide +kernel
theorem dX9_block_128 : decode cX9_block 128 = .ok (.aload_n 0, 1) := by decide +kernel
theorem dX9_block_129 : decode cX9_block 129 = .ok (.getfield 172, 3) := by decide +kernel
theorem dX9_block_132 : decode cX9_block 132 = .ok (.iload_n 2, 1) := by decide +kernel
theorem dX9_block_133 : decode cX9_block 133 = .ok (.aload_n 0, 1) := by decide +kernel
theorem dX9_block_134 : decode cX9_block 134 = .ok (.getfield 172, 3) := by decide +kernel
theorem dX9_block_137 : decode cX9_block 137 = .ok (.iload_n 2, 1) := by decide +kernel
theorem dX9_block_138 : decode cX9_block 138 = .ok (.bipush 16, 2) := by decide +kernel
theorem dX9_block_140 : decode cX9_block 140 = .ok (.isub, 1) := by decide +kernel
theorem dX9_block_141 : decode cX9_block 141 = .ok (.iaload, 1) := by decide +kernel
theorem dX9_block_142 : decode cX9_block 142 = .ok (.iload 5, 2) := by decide +kernel
theorem dX9_block_144 : decode cX9_block 144 = .ok (.iadd, 1) := by decide +kernel
theorem dX9_block_145 : decode cX9_block 145 = .ok (.aload_n 0, 1) := by decide +kernel
theorem dX9_block_146 : decode cX9_block 146 = .ok (.getfield 172, 3) := by decide +kernel
theorem dX9_block_149 : decode cX9_block 149 = .ok (.iload_n 2, 1) := by decide +kernel
theorem dX9_block_150 : decode cX9_block 150 = .ok (.bipush 7, 2) := by decide +kernel
theorem dX9_block_152 : decode cX9_block 152 = .ok (.isub, 1) := by decide +kernel
theorem dX9_block_153 : decode cX9_block 153 = .ok (.iaload, 1) := by decide +kernel
theorem dX9_block_154 : decode cX9_block 154 = .ok (.iadd, 1) := by decide +kernel
theorem dX9_block_155 : decode cX9_block 155 = .ok (.iload 6, 2) := by decide +kernel
theorem dX9_block_157 : decode cX9_block 157 = .ok (.iadd, 1) := by decide +kernel
theorem dX9_block_158 : decode cX9_block 158 = .ok (.iastore, 1) := by decide +kernel
theorem dX9_block_159 : decode cX9_block 159 = .ok (.iinc 2 1, 3) := by decide +kernel
theorem dX9_block_162 : decode cX9_block 162 = .ok (.goto (-102), 3) := by decide +kernel
theorem dX9_block_165 : decode cX9_block 165 = .ok (.aload_n 0, 1) := by decide +kernel
theorem dX9_block_166 : decode cX9_block 166 = .ok (.getfield 175, 3) := by decide +kernel
theorem dX9_block_169 : decode cX9_block 169 = .ok (.iconst 0, 1) := by decide +kernel
theorem dX9_block_170 : decode cX9_block 170 = .ok (.iaload, 1) := by decide +kernel
theorem dX9_block_171 : decode cX9_block 171 = .ok (.istore_n 2, 1) := by decide +kernel
theorem dX9_block_172 : decode cX9_block 172 = .ok (.aload_n 0, 1) := by decide +kernel
theorem dX9_block_173 : decode cX9_block 173 = .ok (.getfield 175, 3) := by decide +kernel
theorem dX9_block_176 : decode cX9_block 176 = .ok (.iconst 1, 1) := by decide +kernel
theorem dX9_block_177 : decode cX9_block 177 = .ok (.iaload, 1) := by decide +kernel
theorem dX9_block_178 : decode cX9_block 178 = .ok (.istore_n 3, 1) := by decide +kernel
theorem dX9_block_179 : decode cX9_block 179 = .ok (.aload_n 0, 1) := by decide +kernel
theorem dX9_block_180 : decode cX9_block 180 = .ok (.getfield 175, 3) := by decide +kernel
theorem dX9_block_183 : decode cX9_block 183 = .ok (.iconst 2, 1) := by decide +kernel
theorem dX9_block_184 : decode cX9_block 184 = .ok (.iaload, 1) := by decide +kernel
theorem dX9_block_185 : decode cX9_block 185 = .ok (.istore 4, 2) := by decide +kernel
theorem dX9_block_187 : decode cX9_block 187 = .ok (.aload_n 0, 1) := by decide +kernel
theorem dX9_block_188 : decode cX9_block 188 = .ok (.getfield 175, 3) := by decide +kernel
theorem dX9_block_191 : decode cX9_block 191 = .ok (.iconst 3, 1) := by decide +kernel
theorem dX9_block_192 : decode cX9_block 192 = .ok (.iaload, 1) := by decide +kernel
theorem dX9_block_193 : decode cX9_block 193 = .ok (.istore 5, 2) := by decide +kernel
theorem dX9_block_195 : decode cX9_block 195 = .ok (.aload_n 0, 1) := by decide +kernel
theorem dX9_block_196 : decode cX9_block 196 = .ok (.getfield 175, 3) := by decide +kernel
theorem dX9_block_199 : decode cX9_block 199 = .ok (.iconst 4, 1) := by decide +kernel
theorem dX9_block_200 : decode cX9_block 200 = .ok (.iaload, 1) := by decide +kernel
theorem dX9_block_201 : decode cX9_block 201 = .ok (.istore 6, 2) := by decide +kernel
theorem dX9_block_203 : decode cX9_block 203 = .ok (.aload_n 0, 1) := by decide +kernel
theorem dX9_block_204 : decode cX9_block 204 = .ok (.getfield 175, 3) := by decide +kernel
theorem dX9_block_207 : decode cX9_block 207 = .ok (.iconst 5, 1) := by decide +kernel
theorem dX9_block_208 : decode cX9_block 208 = .ok (.iaload, 1) := by decide +kernel
end
section
theorem dX9_block_209 : decode cX9_block 209 = .ok (.istore 7, 2) := by decide +kernel
theorem dX9_block_211 : decode cX9_block 211 = .ok (.aload_n 0, 1) := by decide +kernel
theorem dX9_block_212 : decode cX9_block 212 = .ok (.getfield 175, 3) := by decide +kernel
theorem dX9_block_215 : decode cX9_block 215 = .ok (.bipush 6, 2) := by decide +kernel
theorem dX9_block_217 : decode cX9_block 217 = .ok (.iaload, 1) := by decide +kernel
theorem dX9_block_218 : decode cX9_block 218 = .ok (.istore 8, 2) := by decide +kernel
theorem dX9_block_220 : decode cX9_block 220 = .ok (.aload_n 0, 1) := by decide +kernel
theorem dX9_block_221 : decode cX9_block 221 = .ok (.getfield 175, 3) := by decide +kernel
theorem dX9_block_224 : decode cX9_block 224 = .ok (.bipush 7, 2) := by decide +kernel
theorem dX9_block_226 : decode cX9_block 226 = .ok (.iaload, 1) := by decide +kernel
theorem dX9_block_227 : decode cX9_block 227 = .ok (.istore 9, 2) := by decide +kernel
theorem dX9_block_229 : decode cX9_block 229 = .ok (.iconst 0, 1) := by decide +kernel
theorem dX9_block_230 : decode cX9_block 230 = .ok (.istore 10, 2) := by decide +kernel
theorem dX9_block_232 : decode cX9_block 232 = .ok (.iload 10, 2) := by decide +kernel
theorem dX9_block_234 : decode cX9_block 234 = .ok (.bipush 64, 2) := by decide +kernel
theorem dX9_block_236 : decode cX9_block 236 = .ok (.if_icmp .ge 144, 3) := by decide +kernel
theorem dX9_block_239 : decode cX9_block 239 = .ok (.iload 6, 2) := by decide +kernel
theorem dX9_block_241 : decode cX9_block 241 = .ok (.bipush 6, 2) := by decide +kernel
theorem dX9_block_243 : decode cX9_block 243 = .ok (.invokestatic 344, 3) := by decide +kernel
theorem dX9_block_246 : decode cX9_block 246 = .ok (.iload 6, 2) := by decide +kernel
theorem dX9_block_248 : decode cX9_block 248 = .ok (.bipush 11, 2) := by decide +kernel
theorem dX9_block_250 : decode cX9_block 250 = .ok (.invokestatic 344, 3) := by decide +kernel
theorem dX9_block_253 : decode cX9_block 253 = .ok (.ixor, 1) := by decide +kernel
theorem dX9_block_254 : decode cX9_block 254 = .ok (.iload 6, 2) := by decide +kernel
theorem dX9_block_256 : decode cX9_block 256 = .ok (.bipush 25, 2) := by decide +kernel
theorem dX9_block_258 : decode cX9_block 258 = .ok (.invokestatic 344, 3) := by decide +kernel
theorem dX9_block_261 : decode cX9_block 261 = .ok (.ixor, 1) := by decide +kernel
theorem dX9_block_262 : decode cX9_block 262 = .ok (.istore 11, 2) := by decide +kernel
theorem dX9_block_264 : decode cX9_block 264 = .ok (.iload 9, 2) := by decide +kernel
theorem dX9_block_266 : decode cX9_block 266 = .ok (.iload 11, 2) := by decide +kernel
theorem dX9_block_268 : decode cX9_block 268 = .ok (.iadd, 1) := by decide +kernel
theorem dX9_block_269 : decode cX9_block 269 = .ok (.iload 6, 2) := by decide +kernel
theorem dX9_block_271 : decode cX9_block 271 = .ok (.iload 7, 2) := by decide +kernel
theorem dX9_block_273 : decode cX9_block 273 = .ok (.iand, 1) := by decide +kernel
theorem dX9_block_274 : decode cX9_block 274 = .ok (.iload 6, 2) := by decide +kernel
theorem dX9_block_276 : decode cX9_block 276 = .ok (.iconst (-1), 1) := by decide +kernel
theorem dX9_block_277 : decode cX9_block 277 = .ok (.ixor, 1) := by decide +kernel
theorem dX9_block_278 : decode cX9_block 278 = .ok (.iload 8, 2) := by decide +kernel
theorem dX9_block_280 : decode cX9_block 280 = .ok (.iand, 1) := by decide +kernel
theorem dX9_block_281 : decode cX9_block 281 = .ok (.ixor, 1) := by decide +kernel
theorem dX9_block_282 : decode cX9_block 282 = .ok (.iadd, 1) := by decide +kernel
theorem dX9_block_283 : decode cX9_block 283 = .ok (.aload_n 0, 1) := by decide +kernel
theorem dX9_block_284 : decode cX9_block 284 = .ok (.getfield 166, 3) := by decide +kernel
theorem dX9_block_287 : decode cX9_block 287 = .ok (.iload 10, 2) := by decide +kernel
theorem dX9_block_289 : decode cX9_block 289 = .ok (.iaload, 1) := by decide +kernel
theorem dX9_block_290 : decode cX9_block 290 = .ok (.iadd, 1) := by decide +kernel
theorem dX9_block_291 : decode cX9_block 291 = .ok (.aload_n 0, 1) := by decide +kernel
theorem dX9_block_292 : decode cX9_block 292 = .ok (.getfield 172, 3) := by decide +kernel
theorem dX9_block_295 : decode cX9_block 295 = .ok (.iload 10, 2) := by decide +kernel
theorem dX9_block_297 : decode cX9_block 297 = .ok (.iaload, 1) := by decide +kernel
theorem dX9_block_298 : decode cX9_block 298 = .ok (.iadd, 1) := by decide +kernel
theorem dX9_block_299 : decode cX9_block 299 = .ok (.istore 12, 2) := by decide +kernel
theorem dX9_block_301 : decode cX9_block 301 = .ok (.iload_n 2, 1) := by decide +kernel
theorem dX9_block_302 : decode cX9_block 302 = .ok (.iconst 2, 1) := by decide +kernel
theorem dX9_block_303 : decode cX9_block 303 = .ok (.invokestatic 344, 3) := by decide +kernel
theorem dX9_block_306 : decode cX9_block 306 = .ok (.iload_n 2, 1) := by decide +kernel
theorem dX9_block_307 : decode cX9_block 307 = .ok (.bipush 13, 2) := by decide +kernel
theorem dX9_block_309 : decode cX9_block 309 = .ok (.invokestatic 344, 3) := by decide +kernel
theorem dX9_block_312 : decode cX9_block 312 = .ok (.ixor, 1) := by decide +kernel
theorem dX9_block_313 : decode cX9_block 313 = .ok (.iload_n 2, 1) := by decide +kernel
theorem dX9_block_314 : decode cX9_block 314 = .ok (.bipush 22, 2) := by decide +kernel
theorem dX9_block_316 : decode cX9_block 316 = .ok (.invokestatic 344, 3) := by decide +kernel
theorem dX9_block_319 : decode cX9_block 319 = .ok (.ixor, 1) := by decide +kernel
theorem dX9_block_320 : decode cX9_block 320 = .ok (.istore 13, 2) := by decide +kernel
theorem dX9_block_322 : decode cX9_block 322 = .ok (.iload 13, 2) := by decide +kernel
theorem dX9_block_324 : decode cX9_block 324 = .ok (.iload_n 2, 1) := by decide +kernel
theorem dX9_block_325 : decode cX9_block 325 = .ok (.iload_n 3, 1) := by decide +kernel
theorem dX9_block_326 : decode cX9_block 326 = .ok (.iand, 1) := by decide +kernel
theorem dX9_block_327 : decode cX9_block 327 = .ok (.iload_n 2, 1) := by decide +kernel
theorem dX9_block_328 : decode cX9_block 328 = .ok (.iload 4, 2) := by decide +kernel
theorem dX9_block_330 : decode cX9_block 330 = .ok (.iand, 1) := by decide +kernel
theorem dX9_block_331 : decode cX9_block 331 = .ok (.ixor, 1) := by decide +kernel
theorem dX9_block_332 : decode cX9_block 332 = .ok (.iload_n 3, 1) := by decide +kernel
theorem dX9_block_333 : decode cX9_block 333 = .ok (.iload 4, 2) := by decide +kernel
theorem dX9_block_335 : decode cX9_block 335 = .ok (.iand, 1) := by decide +kernel
theorem dX9_block_336 : decode cX9_block 336 = .ok (.ixor, 1) := by decide +kernel
theorem dX9_block_337 : decode cX9_block 337 = .ok (.iadd, 1) := by decide +kernel
theorem dX9_block_338 : decode cX9_block 338 = .ok (.istore 14, 2) := by decide +kernel
theorem dX9_block_340 : decode cX9_block 340 = .ok (.iload 8, 2) := by decide +kernel
theorem dX9_block_342 : decode cX9_block 342 = .ok (.istore 9, 2) := by decide +kernel
theorem dX9_block_344 : decode cX9_block 344 = .ok (.iload 7, 2) := by decide +kernel
theorem dX9_block_346 : decode cX9_block 346 = .ok (.istore 8, 2) := by decide +kernel
theorem dX9_block_348 : decode cX9_block 348 = .ok (.iload 6, 2) := by decide +kernel
theorem dX9_block_350 : decode cX9_block 350 = .ok (.istore 7, 2) := by decide +kernel
theorem dX9_block_352 : decode cX9_block 352 = .ok (.iload 5, 2) := by decide +kernel
theorem dX9_block_354 : decode cX9_block 354 = .ok (.iload 12, 2) := by decide +kernel
theorem dX9_block_356 : decode cX9_block 356 = .ok (.iadd, 1) := by decide +kernel
theorem dX9_block_357 : decode cX9_block 357 = .ok (.istore 6, 2) := by decide +kernel
theorem dX9_block_359 : decode cX9_block 359 = .ok (.iload 4, 2) := by decide +kernel
theorem dX9_block_361 : decode cX9_block 361 = .ok (.istore 5, 2) := by decide +kernel
theorem dX9_block_363 : decode cX9_block 363 = .ok (.iload_n 3, 1) := by decide +kernel
theorem dX9_block_364 : decode cX9_block 364 = .ok (.istore 4, 2) := by decide +kernel
theorem dX9_block_366 : decode cX9_block 366 = .ok (.iload_n 2, 1) := by decide +kernel
theorem dX9_block_367 : decode cX9_block 367 = .ok (.istore_n 3, 1) := by decide +kernel
theorem dX9_block_368 : decode cX9_block 368 = .ok (.iload 12, 2) := by decide +kernel
theorem dX9_block_370 : decode cX9_block 370 = .ok (.iload 14, 2) := by decide +kernel
theorem dX9_block_372 : decode cX9_block 372 = .ok (.iadd, 1) := by decide +kernel
theorem dX9_block_373 : decode cX9_block 373 = .ok (.istore_n 2, 1) := by decide +kernel
theorem dX9_block_374 : decode cX9_block 374 = .ok (.iinc 10 1, 3) := by decide +kernel
theorem dX9_block_377 : decode cX9_block 377 = .ok (.goto (-145), 3) := by decide +kernel
theorem dX9_block_380 : decode cX9_block 380 = .ok (.aload_n 0, 1) := by decide +kernel
theorem dX9_block_381 : decode cX9_block 381 = .ok (.getfield 175, 3) := by decide +kernel
theorem dX9_block_384 : decode cX9_block 384 = .ok (.iconst 0, 1) := by decide +kernel
theorem dX9_block_385 : decode cX9_block 385 = .ok (.dup2, 1) := by decide +kernel
theorem dX9_block_386 : decode cX9_block 386 = .ok (.iaload, 1) := by decide +kernel
theorem dX9_block_387 : decode cX9_block 387 = .ok (.iload_n 2, 1) := by decide +kernel
theorem dX9_block_388 : decode cX9_block 388 = .ok (.iadd, 1) := by decide +kernel
theorem dX9_block_389 : decode cX9_block 389 = .ok (.iastore, 1) := by decide +kernel
theorem dX9_block_390 : decode cX9_block 390 = .ok (.aload_n 0, 1) := by decide +kernel
theorem dX9_block_391 : decode cX9_block 391 = .ok (.getfield 175, 3) := by decide +kernel
theorem dX9_block_394 : decode cX9_block 394 = .ok (.iconst 1, 1) := by decide +kernel
theorem dX9_block_395 : decode cX9_block 395 = .ok (.dup2, 1) := by decide +kernel
theorem dX9_block_396 : decode cX9_block 396 = .ok (.iaload, 1) := by decide +kernel
theorem dX9_block_397 : decode cX9_block 397 = .ok (.iload_n 3, 1) := by decide +kernel
theorem dX9_block_398 : decode cX9_block 398 = .ok (.iadd, 1) := by decide +kernel
theorem dX9_block_399 : decode cX9_block 399 = .ok (.iastore, 1) := by decide +kernel
theorem dX9_block_400 : decode cX9_block 400 = .ok (.aload_n 0, 1) := by decide +kernel
theorem dX9_block_401 : decode cX9_block 401 = .ok (.getfield 175, 3) := by decide +kernel
theorem dX9_block_404 : decode cX9_block 404 = .ok (.iconst 2, 1) := by decide +kernel
theorem dX9_block_405 : decode cX9_block 405 = .ok (.dup2, 1) := by decide +kernel
theorem dX9_block_406 : decode cX9_block 406 = .ok (.iaload, 1) := by decide +kernel
theorem dX9_block_407 : decode cX9_block 407 = .ok (.iload 4, 2) := by decide +kernel
theorem dX9_block_409 : decode cX9_block 409 = .ok (.iadd, 1) := by decide +kernel
theorem dX9_block_410 : decode cX9_block 410 = .ok (.iastore, 1) := by decide +kernel
theorem dX9_block_411 : decode cX9_block 411 = .ok (.aload_n 0, 1) := by decide +kernel
theorem dX9_block_412 : decode cX9_block 412 = .ok (.getfield 175, 3) := by decide +kernel
theorem dX9_block_415 : decode cX9_block 415 = .ok (.iconst 3, 1) := by decide +kernel
theorem dX9_block_416 : decode cX9_block 416 = .ok (.dup2, 1) := by decide +kernel
theorem dX9_block_417 : decode cX9_block 417 = .ok (.iaload, 1) := by decide +kernel
theorem dX9_block_418 : decode cX9_block 418 = .ok (.iload 5, 2) := by decide +kernel
theorem dX9_block_420 : decode cX9_block 420 = .ok (.iadd, 1) := by decide +kernel
theorem dX9_block_421 : decode cX9_block 421 = .ok (.iastore, 1) := by decide +kernel
theorem dX9_block_422 : decode cX9_block 422 = .ok (.aload_n 0, 1) := by decide +kernel
theorem dX9_block_423 : decode cX9_block 423 = .ok (.getfield 175, 3) := by decide +kernel
theorem dX9_block_426 : decode cX9_block 426 = .ok (.iconst 4, 1) := by decide +kernel
theorem dX9_block_427 : decode cX9_block 427 = .ok (.dup2, 1) := by decide +kernel
theorem dX9_block_428 : decode cX9_block 428 = .ok (.iaload, 1) := by decide +kernel
theorem dX9_block_429 : decode cX9_block 429 = .ok (.iload 6, 2) := by decide +kernel
theorem dX9_block_431 : decode cX9_block 431 = .ok (.iadd, 1) := by decide +kernel
theorem dX9_block_432 : decode cX9_block 432 = .ok (.iastore, 1) := by decide +kernel
theorem dX9_block_433 : decode cX9_block 433 = .ok (.aload_n 0, 1) := by decide +kernel
theorem dX9_block_434 : decode cX9_block 434 = .ok (.getfield 175, 3) := by decide +kernel
theorem dX9_block_437 : decode cX9_block 437 = .ok (.iconst 5, 1) := by decide +kernel
theorem dX9_block_438 : decode cX9_block 438 = .ok (.dup2, 1) := by decide +kernel
theorem dX9_block_439 : decode cX9_block 439 = .ok (.iaload, 1) := by decide +kernel
theorem dX9_block_440 : decode cX9_block 440 = .ok (.iload 7, 2) := by decide +kernel
theorem dX9_block_442 : decode cX9_block 442 = .ok (.iadd, 1) := by decide +kernel
theorem dX9_block_443 : decode cX9_block 443 = .ok (.iastore, 1) := by decide +kernel
theorem dX9_block_444 : decode cX9_block 444 = .ok (.aload_n 0, 1) := by decide +kernel
theorem dX9_block_445 : decode cX9_block 445 = .ok (.getfield 175, 3) := by decide +kernel
theorem dX9_block_448 : decode cX9_block 448 = .ok (.bipush 6, 2) := by decide +kernel
theorem dX9_block_450 : decode cX9_block 450 = .ok (.dup2, 1) := by decide +kernel
theorem dX9_block_451 : decode cX9_block 451 = .ok (.iaload, 1) := by decide +kernel
theorem dX9_block_452 : decode cX9_block 452 = .ok (.iload 8, 2) := by decide +kernel
theorem dX9_block_454 : decode cX9_block 454 = .ok (.iadd, 1) := by decide +kernel
theorem dX9_block_455 : decode cX9_block 455 = .ok (.iastore, 1) := by decide +kernel
theorem dX9_block_456 : decode cX9_block 456 = .ok (.aload_n 0, 1) := by decide +kernel
theorem dX9_block_457 : decode cX9_block 457 = .ok (.getfield 175, 3) := by decide +kernel
theorem dX9_block_460 : decode cX9_block 460 = .ok (.bipush 7, 2) := by decide +kernel
theorem dX9_block_462 : decode cX9_block 462 = .ok (.dup2, 1) := by decide +kernel
theorem dX9_block_463 : decode cX9_block 463 = .ok (.iaload, 1) := by decide +kernel
theorem dX9_block_464 : decode cX9_block 464 = .ok (.iload 9, 2) := by decide +kernel
theorem dX9_block_466 : decode cX9_block 466 = .ok (.iadd, 1) := by decide +kernel
theorem dX9_block_467 : decode cX9_block 467 = .ok (.iastore, 1) := by decide +kernel
theorem dX9_block_468 : decode cX9_block 468 = .ok (.return_, 1) := by decide +kernel
theorem dX9_saysEntry_0 : decode cX9_saysEntry 0 = .ok (.iconst 0, 1) := by decide +kernel
theorem dX9_saysEntry_1 : decode cX9_saysEntry 1 = .ok (.istore_n 2, 1) := by decide +kernel
theorem dX9_saysEntry_2 : decode cX9_saysEntry 2 = .ok (.iload_n 2, 1) := by decide +kernel
theorem dX9_saysEntry_3 : decode cX9_saysEntry 3 = .ok (.aload_n 0, 1) := by decide +kernel
theorem dX9_saysEntry_4 : decode cX9_saysEntry 4 = .ok (.getfield 75, 3) := by decide +kernel
theorem dX9_saysEntry_7 : decode cX9_saysEntry 7 = .ok (.iload_n 1, 1) := by decide +kernel
theorem dX9_saysEntry_8 : decode cX9_saysEntry 8 = .ok (.iaload, 1) := by decide +kernel
theorem dX9_saysEntry_9 : decode cX9_saysEntry 9 = .ok (.if_icmp .ge 26, 3) := by decide +kernel
theorem dX9_saysEntry_12 : decode cX9_saysEntry 12 = .ok (.aload_n 0, 1) := by decide +kernel
theorem dX9_saysEntry_13 : decode cX9_saysEntry 13 = .ok (.aload_n 0, 1) := by decide +kernel
theorem dX9_saysEntry_14 : decode cX9_saysEntry 14 = .ok (.getfield 66, 3) := by decide +kernel
theorem dX9_saysEntry_17 : decode cX9_saysEntry 17 = .ok (.aload_n 0, 1) := by decide +kernel
theorem dX9_saysEntry_18 : decode cX9_saysEntry 18 = .ok (.getfield 72, 3) := by decide +kernel
theorem dX9_saysEntry_21 : decode cX9_saysEntry 21 = .ok (.iload_n 1, 1) := by decide +kernel
theorem dX9_saysEntry_22 : decode cX9_saysEntry 22 = .ok (.iaload, 1) := by decide +kernel
theorem dX9_saysEntry_23 : decode cX9_saysEntry 23 = .ok (.iload_n 2, 1) := by decide +kernel
theorem dX9_saysEntry_24 : decode cX9_saysEntry 24 = .ok (.iadd, 1) := by decide +kernel
theorem dX9_saysEntry_25 : decode cX9_saysEntry 25 = .ok (.iaload, 1) := by decide +kernel
theorem dX9_saysEntry_26 : decode cX9_saysEntry 26 = .ok (.invokevirtual 330, 3) := by decide +kernel
theorem dX9_saysEntry_29 : decode cX9_saysEntry 29 = .ok (.iinc 2 1, 3) := by decide +kernel
theorem dX9_saysEntry_32 : decode cX9_saysEntry 32 = .ok (.goto (-30), 3) := by decide +kernel
theorem dX9_saysEntry_35 : decode cX9_saysEntry 35 = .ok (.return_, 1) := by decide +kernel
theorem dX9_chain_0 : decode cX9_chain 0 = .ok (.iconst 0, 1) := by decide +kernel
theorem dX9_chain_1 : decode cX9_chain 1 = .ok (.istore_n 2, 1) := by decide +kernel
theorem dX9_chain_2 : decode cX9_chain 2 = .ok (.iload_n 2, 1) := by decide +kernel
theorem dX9_chain_3 : decode cX9_chain 3 = .ok (.bipush 32, 2) := by decide +kernel
theorem dX9_chain_5 : decode cX9_chain 5 = .ok (.if_icmp .ge 16, 3) := by decide +kernel
theorem dX9_chain_8 : decode cX9_chain 8 = .ok (.aload_n 0, 1) := by decide +kernel
theorem dX9_chain_9 : decode cX9_chain 9 = .ok (.getfield 178, 3) := by decide +kernel
theorem dX9_chain_12 : decode cX9_chain 12 = .ok (.iload_n 2, 1) := by decide +kernel
theorem dX9_chain_13 : decode cX9_chain 13 = .ok (.iconst 0, 1) := by decide +kernel
theorem dX9_chain_14 : decode cX9_chain 14 = .ok (.iastore, 1) := by decide +kernel
theorem dX9_chain_15 : decode cX9_chain 15 = .ok (.iinc 2 1, 3) := by decide +kernel
theorem dX9_chain_18 : decode cX9_chain 18 = .ok (.goto (-16), 3) := by decide +kernel
theorem dX9_chain_21 : decode cX9_chain 21 = .ok (.iconst 0, 1) := by decide +kernel
theorem dX9_chain_22 : decode cX9_chain 22 = .ok (.istore_n 2, 1) := by decide +kernel
theorem dX9_chain_23 : decode cX9_chain 23 = .ok (.iload_n 2, 1) := by decide +kernel
theorem dX9_chain_24 : decode cX9_chain 24 = .ok (.iload_n 1, 1) := by decide +kernel
theorem dX9_chain_25 : decode cX9_chain 25 = .ok (.if_icmp .ge 42, 3) := by decide +kernel
theorem dX9_chain_28 : decode cX9_chain 28 = .ok (.iconst 0, 1) := by decide +kernel
theorem dX9_chain_29 : decode cX9_chain 29 = .ok (.istore_n 3, 1) := by decide +kernel
theorem dX9_chain_30 : decode cX9_chain 30 = .ok (.iload_n 3, 1) := by decide +kernel
theorem dX9_chain_31 : decode cX9_chain 31 = .ok (.bipush 32, 2) := by decide +kernel
theorem dX9_chain_33 : decode cX9_chain 33 = .ok (.if_icmp .ge 19, 3) := by decide +kernel
theorem dX9_chain_36 : decode cX9_chain 36 = .ok (.aload_n 0, 1) := by decide +kernel
theorem dX9_chain_37 : decode cX9_chain 37 = .ok (.aload_n 0, 1) := by decide +kernel
theorem dX9_chain_38 : decode cX9_chain 38 = .ok (.getfield 178, 3) := by decide +kernel
theorem dX9_chain_41 : decode cX9_chain 41 = .ok (.iload_n 3, 1) := by decide +kernel
theorem dX9_chain_42 : decode cX9_chain 42 = .ok (.iaload, 1) := by decide +kernel
theorem dX9_chain_43 : decode cX9_chain 43 = .ok (.invokevirtual 330, 3) := by decide +kernel
theorem dX9_chain_46 : decode cX9_chain 46 = .ok (.iinc 3 1, 3) := by decide +kernel
theorem dX9_chain_49 : decode cX9_chain 49 = .ok (.goto (-19), 3) := by decide +kernel
theorem dX9_chain_52 : decode cX9_chain 52 = .ok (.aload_n 0, 1) := by decide +kernel
theorem dX9_chain_53 : decode cX9_chain 53 = .ok (.iload_n 2, 1) := by decide +kernel
theorem dX9_chain_54 : decode cX9_chain 54 = .ok (.invokevirtual 348, 3) := by decide +kernel
theorem dX9_chain_57 : decode cX9_chain 57 = .ok (.aload_n 0, 1) := by decide +kernel
theorem dX9_chain_58 : decode cX9_chain 58 = .ok (.invokevirtual 351, 3) := by decide +kernel
theorem dX9_chain_61 : decode cX9_chain 61 = .ok (.iinc 2 1, 3) := by decide +kernel
theorem dX9_chain_64 : decode cX9_chain 64 = .ok (.goto (-41), 3) := by decide +kernel
theorem dX9_chain_67 : decode cX9_chain 67 = .ok (.return_, 1) := by decide +kernel
theorem dX9_leaf_0 : decode cX9_leaf 0 = .ok (.aload_n 0, 1) := by decide +kernel
theorem dX9_leaf_1 : decode cX9_leaf 1 = .ok (.iconst 0, 1) := by decide +kernel
theorem dX9_leaf_2 : decode cX9_leaf 2 = .ok (.invokevirtual 330, 3) := by decide +kernel
theorem dX9_leaf_5 : decode cX9_leaf 5 = .ok (.aload_n 0, 1) := by decide +kernel
theorem dX9_leaf_6 : decode cX9_leaf 6 = .ok (.iload_n 1, 1) := by decide +kernel
theorem dX9_leaf_7 : decode cX9_leaf 7 = .ok (.invokevirtual 348, 3) := by decide +kernel
theorem dX9_leaf_10 : decode cX9_leaf 10 = .ok (.aload_n 0, 1) := by decide +kernel
theorem dX9_leaf_11 : decode cX9_leaf 11 = .ok (.invokevirtual 351, 3) := by decide +kernel
theorem dX9_leaf_14 : decode cX9_leaf 14 = .ok (.return_, 1) := by decide +kernel
theorem dX9_keepWait_0 : decode cX9_keepWait 0 = .ok (.iconst 0, 1) := by decide +kernel
theorem dX9_keepWait_1 : decode cX9_keepWait 1 = .ok (.istore_n 2, 1) := by decide +kernel
theorem dX9_keepWait_2 : decode cX9_keepWait 2 = .ok (.iload_n 2, 1) := by decide +kernel
theorem dX9_keepWait_3 : decode cX9_keepWait 3 = .ok (.bipush 32, 2) := by decide +kernel
theorem dX9_keepWait_5 : decode cX9_keepWait 5 = .ok (.if_icmp .ge 26, 3) := by decide +kernel
theorem dX9_keepWait_8 : decode cX9_keepWait 8 = .ok (.aload_n 0, 1) := by decide +kernel
theorem dX9_keepWait_9 : decode cX9_keepWait 9 = .ok (.getfield 181, 3) := by decide +kernel
theorem dX9_keepWait_12 : decode cX9_keepWait 12 = .ok (.bipush 32, 2) := by decide +kernel
theorem dX9_keepWait_14 : decode cX9_keepWait 14 = .ok (.iload_n 1, 1) := by decide +kernel
theorem dX9_keepWait_15 : decode cX9_keepWait 15 = .ok (.imul, 1) := by decide +kernel
theorem dX9_keepWait_16 : decode cX9_keepWait 16 = .ok (.iload_n 2, 1) := by decide +kernel
theorem dX9_keepWait_17 : decode cX9_keepWait 17 = .ok (.iadd, 1) := by decide +kernel
theorem dX9_keepWait_18 : decode cX9_keepWait 18 = .ok (.aload_n 0, 1) := by decide +kernel
theorem dX9_keepWait_19 : decode cX9_keepWait 19 = .ok (.getfield 178, 3) := by decide +kernel
theorem dX9_keepWait_22 : decode cX9_keepWait 22 = .ok (.iload_n 2, 1) := by decide +kernel
theorem dX9_keepWait_23 : decode cX9_keepWait 23 = .ok (.iaload, 1) := by decide +kernel
theorem dX9_keepWait_24 : decode cX9_keepWait 24 = .ok (.iastore, 1) := by decide +kernel
theorem dX9_keepWait_25 : decode cX9_keepWait 25 = .ok (.iinc 2 1, 3) := by decide +kernel
theorem dX9_keepWait_28 : decode cX9_keepWait 28 = .ok (.goto (-26), 3) := by decide +kernel
theorem dX9_keepWait_31 : decode cX9_keepWait 31 = .ok (.return_, 1) := by decide +kernel
theorem dX9_joins_0 : decode cX9_joins 0 = .ok (.aload_n 0, 1) := by decide +kernel
theorem dX9_joins_1 : decode cX9_joins 1 = .ok (.iconst 1, 1) := by decide +kernel
theorem dX9_joins_2 : decode cX9_joins 2 = .ok (.invokevirtual 330, 3) := by decide +kernel
theorem dX9_joins_5 : decode cX9_joins 5 = .ok (.iconst 0, 1) := by decide +kernel
theorem dX9_joins_6 : decode cX9_joins 6 = .ok (.istore_n 2, 1) := by decide +kernel
theorem dX9_joins_7 : decode cX9_joins 7 = .ok (.iload_n 2, 1) := by decide +kernel
theorem dX9_joins_8 : decode cX9_joins 8 = .ok (.bipush 32, 2) := by decide +kernel
theorem dX9_joins_10 : decode cX9_joins 10 = .ok (.if_icmp .ge 24, 3) := by decide +kernel
theorem dX9_joins_13 : decode cX9_joins 13 = .ok (.aload_n 0, 1) := by decide +kernel
theorem dX9_joins_14 : decode cX9_joins 14 = .ok (.aload_n 0, 1) := by decide +kernel
theorem dX9_joins_15 : decode cX9_joins 15 = .ok (.getfield 181, 3) := by decide +kernel
theorem dX9_joins_18 : decode cX9_joins 18 = .ok (.bipush 32, 2) := by decide +kernel
theorem dX9_joins_20 : decode cX9_joins 20 = .ok (.iload_n 1, 1) := by decide +kernel
theorem dX9_joins_21 : decode cX9_joins 21 = .ok (.imul, 1) := by decide +kernel
theorem dX9_joins_22 : decode cX9_joins 22 = .ok (.iload_n 2, 1) := by decide +kernel
theorem dX9_joins_23 : decode cX9_joins 23 = .ok (.iadd, 1) := by decide +kernel
theorem dX9_joins_24 : decode cX9_joins 24 = .ok (.iaload, 1) := by decide +kernel
theorem dX9_joins_25 : decode cX9_joins 25 = .ok (.invokevirtual 330, 3) := by decide +kernel
theorem dX9_joins_28 : decode cX9_joins 28 = .ok (.iinc 2 1, 3) := by decide +kernel
theorem dX9_joins_31 : decode cX9_joins 31 = .ok (.goto (-24), 3) := by decide +kernel
theorem dX9_joins_34 : decode cX9_joins 34 = .ok (.iconst 0, 1) := by decide +kernel
theorem dX9_joins_35 : decode cX9_joins 35 = .ok (.istore_n 2, 1) := by decide +kernel
theorem dX9_joins_36 : decode cX9_joins 36 = .ok (.iload_n 2, 1) := by decide +kernel
theorem dX9_joins_37 : decode cX9_joins 37 = .ok (.bipush 32, 2) := by decide +kernel
theorem dX9_joins_39 : decode cX9_joins 39 = .ok (.if_icmp .ge 19, 3) := by decide +kernel
theorem dX9_joins_42 : decode cX9_joins 42 = .ok (.aload_n 0, 1) := by decide +kernel
theorem dX9_joins_43 : decode cX9_joins 43 = .ok (.aload_n 0, 1) := by decide +kernel
theorem dX9_joins_44 : decode cX9_joins 44 = .ok (.getfield 178, 3) := by decide +kernel
theorem dX9_joins_47 : decode cX9_joins 47 = .ok (.iload_n 2, 1) := by decide +kernel
theorem dX9_joins_48 : decode cX9_joins 48 = .ok (.iaload, 1) := by decide +kernel
theorem dX9_joins_49 : decode cX9_joins 49 = .ok (.invokevirtual 330, 3) := by decide +kernel
theorem dX9_joins_52 : decode cX9_joins 52 = .ok (.iinc 2 1, 3) := by decide +kernel
theorem dX9_joins_55 : decode cX9_joins 55 = .ok (.goto (-19), 3) := by decide +kernel
theorem dX9_joins_58 : decode cX9_joins 58 = .ok (.aload_n 0, 1) := by decide +kernel
theorem dX9_joins_59 : decode cX9_joins 59 = .ok (.invokevirtual 351, 3) := by decide +kernel
theorem dX9_joins_62 : decode cX9_joins 62 = .ok (.return_, 1) := by decide +kernel
theorem dX9_tree_0 : decode cX9_tree 0 = .ok (.iconst 0, 1) := by decide +kernel
theorem dX9_tree_1 : decode cX9_tree 1 = .ok (.istore_n 3, 1) := by decide +kernel
theorem dX9_tree_2 : decode cX9_tree 2 = .ok (.iload_n 1, 1) := by decide +kernel
theorem dX9_tree_3 : decode cX9_tree 3 = .ok (.istore 4, 2) := by decide +kernel
theorem dX9_tree_5 : decode cX9_tree 5 = .ok (.iload 4, 2) := by decide +kernel
theorem dX9_tree_7 : decode cX9_tree 7 = .ok (.iload_n 2, 1) := by decide +kernel
theorem dX9_tree_8 : decode cX9_tree 8 = .ok (.if_icmp .ge 68, 3) := by decide +kernel
theorem dX9_tree_11 : decode cX9_tree 11 = .ok (.aload_n 0, 1) := by decide +kernel
theorem dX9_tree_12 : decode cX9_tree 12 = .ok (.iload 4, 2) := by decide +kernel
theorem dX9_tree_14 : decode cX9_tree 14 = .ok (.invokevirtual 354, 3) := by decide +kernel
theorem dX9_tree_17 : decode cX9_tree 17 = .ok (.iconst 1, 1) := by decide +kernel
theorem dX9_tree_18 : decode cX9_tree 18 = .ok (.istore 5, 2) := by decide +kernel
theorem dX9_tree_20 : decode cX9_tree 20 = .ok (.iload_n 3, 1) := by decide +kernel
theorem dX9_tree_21 : decode cX9_tree 21 = .ok (.ifCond .le 33, 3) := by decide +kernel
theorem dX9_tree_24 : decode cX9_tree 24 = .ok (.aload_n 0, 1) := by decide +kernel
theorem dX9_tree_25 : decode cX9_tree 25 = .ok (.getfield 184, 3) := by decide +kernel
theorem dX9_tree_28 : decode cX9_tree 28 = .ok (.iload_n 3, 1) := by decide +kernel
theorem dX9_tree_29 : decode cX9_tree 29 = .ok (.iconst 1, 1) := by decide +kernel
theorem dX9_tree_30 : decode cX9_tree 30 = .ok (.isub, 1) := by decide +kernel
theorem dX9_tree_31 : decode cX9_tree 31 = .ok (.iaload, 1) := by decide +kernel
theorem dX9_tree_32 : decode cX9_tree 32 = .ok (.iload 5, 2) := by decide +kernel
theorem dX9_tree_34 : decode cX9_tree 34 = .ok (.if_icmp .ne 20, 3) := by decide +kernel
theorem dX9_tree_37 : decode cX9_tree 37 = .ok (.iinc 3 (-1), 3) := by decide +kernel
theorem dX9_tree_40 : decode cX9_tree 40 = .ok (.aload_n 0, 1) := by decide +kernel
theorem dX9_tree_41 : decode cX9_tree 41 = .ok (.iload_n 3, 1) := by decide +kernel
theorem dX9_tree_42 : decode cX9_tree 42 = .ok (.invokevirtual 357, 3) := by decide +kernel
theorem dX9_tree_45 : decode cX9_tree 45 = .ok (.iconst 2, 1) := by decide +kernel
theorem dX9_tree_46 : decode cX9_tree 46 = .ok (.iload 5, 2) := by decide +kernel
theorem dX9_tree_48 : decode cX9_tree 48 = .ok (.imul, 1) := by decide +kernel
theorem dX9_tree_49 : decode cX9_tree 49 = .ok (.istore 5, 2) := by decide +kernel
theorem dX9_tree_51 : decode cX9_tree 51 = .ok (.goto (-31), 3) := by decide +kernel
theorem dX9_tree_54 : decode cX9_tree 54 = .ok (.aload_n 0, 1) := by decide +kernel
theorem dX9_tree_55 : decode cX9_tree 55 = .ok (.iload_n 3, 1) := by decide +kernel
theorem dX9_tree_56 : decode cX9_tree 56 = .ok (.invokevirtual 360, 3) := by decide +kernel
theorem dX9_tree_59 : decode cX9_tree 59 = .ok (.aload_n 0, 1) := by decide +kernel
theorem dX9_tree_60 : decode cX9_tree 60 = .ok (.getfield 184, 3) := by decide +kernel
theorem dX9_tree_63 : decode cX9_tree 63 = .ok (.iload_n 3, 1) := by decide +kernel
theorem dX9_tree_64 : decode cX9_tree 64 = .ok (.iload 5, 2) := by decide +kernel
theorem dX9_tree_66 : decode cX9_tree 66 = .ok (.iastore, 1) := by decide +kernel
theorem dX9_tree_67 : decode cX9_tree 67 = .ok (.iinc 3 1, 3) := by decide +kernel
theorem dX9_tree_70 : decode cX9_tree 70 = .ok (.iinc 4 1, 3) := by decide +kernel
theorem dX9_tree_73 : decode cX9_tree 73 = .ok (.goto (-68), 3) := by decide +kernel
theorem dX9_tree_76 : decode cX9_tree 76 = .ok (.iload_n 3, 1) := by decide +kernel
theorem dX9_tree_77 : decode cX9_tree 77 = .ok (.ifCond .ne 8, 3) := by decide +kernel
theorem dX9_tree_80 : decode cX9_tree 80 = .ok (.aload_n 0, 1) := by decide +kernel
theorem dX9_tree_81 : decode cX9_tree 81 = .ok (.invokevirtual 351, 3) := by decide +kernel
theorem dX9_tree_84 : decode cX9_tree 84 = .ok (.return_, 1) := by decide +kernel
theorem dX9_tree_85 : decode cX9_tree 85 = .ok (.iinc 3 (-1), 3) := by decide +kernel
theorem dX9_tree_88 : decode cX9_tree 88 = .ok (.iconst 0, 1) := by decide +kernel
theorem dX9_tree_89 : decode cX9_tree 89 = .ok (.istore 4, 2) := by decide +kernel
theorem dX9_tree_91 : decode cX9_tree 91 = .ok (.iload 4, 2) := by decide +kernel
theorem dX9_tree_93 : decode cX9_tree 93 = .ok (.bipush 32, 2) := by decide +kernel
theorem dX9_tree_95 : decode cX9_tree 95 = .ok (.if_icmp .ge 28, 3) := by decide +kernel
theorem dX9_tree_98 : decode cX9_tree 98 = .ok (.aload_n 0, 1) := by decide +kernel
theorem dX9_tree_99 : decode cX9_tree 99 = .ok (.getfield 178, 3) := by decide +kernel
theorem dX9_tree_102 : decode cX9_tree 102 = .ok (.iload 4, 2) := by decide +kernel
theorem dX9_tree_104 : decode cX9_tree 104 = .ok (.aload_n 0, 1) := by decide +kernel
theorem dX9_tree_105 : decode cX9_tree 105 = .ok (.getfield 181, 3) := by decide +kernel
theorem dX9_tree_108 : decode cX9_tree 108 = .ok (.bipush 32, 2) := by decide +kernel
theorem dX9_tree_110 : decode cX9_tree 110 = .ok (.iload_n 3, 1) := by decide +kernel
theorem dX9_tree_111 : decode cX9_tree 111 = .ok (.imul, 1) := by decide +kernel
theorem dX9_tree_112 : decode cX9_tree 112 = .ok (.iload 4, 2) := by decide +kernel
theorem dX9_tree_114 : decode cX9_tree 114 = .ok (.iadd, 1) := by decide +kernel
theorem dX9_tree_115 : decode cX9_tree 115 = .ok (.iaload, 1) := by decide +kernel
theorem dX9_tree_116 : decode cX9_tree 116 = .ok (.iastore, 1) := by decide +kernel
theorem dX9_tree_117 : decode cX9_tree 117 = .ok (.iinc 4 1, 3) := by decide +kernel
theorem dX9_tree_120 : decode cX9_tree 120 = .ok (.goto (-29), 3) := by decide +kernel
theorem dX9_tree_123 : decode cX9_tree 123 = .ok (.iload_n 3, 1) := by decide +kernel
theorem dX9_tree_124 : decode cX9_tree 124 = .ok (.ifCond .le 14, 3) := by decide +kernel
theorem dX9_tree_127 : decode cX9_tree 127 = .ok (.iinc 3 (-1), 3) := by decide +kernel
theorem dX9_tree_130 : decode cX9_tree 130 = .ok (.aload_n 0, 1) := by decide +kernel
theorem dX9_tree_131 : decode cX9_tree 131 = .ok (.iload_n 3, 1) := by decide +kernel
theorem dX9_tree_132 : decode cX9_tree 132 = .ok (.invokevirtual 357, 3) := by decide +kernel
theorem dX9_tree_135 : decode cX9_tree 135 = .ok (.goto (-12), 3) := by decide +kernel
theorem dX9_tree_138 : decode cX9_tree 138 = .ok (.return_, 1) := by decide +kernel
theorem dX9_hash_0 : decode cX9_hash 0 = .ok (.iload_n 1, 1) := by decide +kernel
theorem dX9_hash_1 : decode cX9_hash 1 = .ok (.iconst 0, 1) := by decide +kernel
theorem dX9_hash_2 : decode cX9_hash 2 = .ok (.iconst 2, 1) := by decide +kernel
theorem dX9_hash_3 : decode cX9_hash 3 = .ok (.invokestatic 311, 3) := by decide +kernel
theorem dX9_hash_6 : decode cX9_hash 6 = .ok (.ifCond .eq 43, 3) := by decide +kernel
theorem dX9_hash_9 : decode cX9_hash 9 = .ok (.iload_n 2, 1) := by decide +kernel
theorem dX9_hash_10 : decode cX9_hash 10 = .ok (.iconst 0, 1) := by decide +kernel
theorem dX9_hash_11 : decode cX9_hash 11 = .ok (.iload_n 1, 1) := by decide +kernel
theorem dX9_hash_12 : decode cX9_hash 12 = .ok (.iconst 2, 1) := by decide +kernel
theorem dX9_hash_13 : decode cX9_hash 13 = .ok (.if_icmp .ne 14, 3) := by decide +kernel
theorem dX9_hash_16 : decode cX9_hash 16 = .ok (.aload_n 0, 1) := by decide +kernel
theorem dX9_hash_17 : decode cX9_hash 17 = .ok (.getfield 13, 3) := by decide +kernel
theorem dX9_hash_20 : decode cX9_hash 20 = .ok (.iconst 0, 1) := by decide +kernel
theorem dX9_hash_21 : decode cX9_hash 21 = .ok (.iaload, 1) := by decide +kernel
theorem dX9_hash_22 : decode cX9_hash 22 = .ok (.iconst 1, 1) := by decide +kernel
theorem dX9_hash_23 : decode cX9_hash 23 = .ok (.isub, 1) := by decide +kernel
theorem dX9_hash_24 : decode cX9_hash 24 = .ok (.goto 9, 3) := by decide +kernel
theorem dX9_hash_27 : decode cX9_hash 27 = .ok (.aload_n 0, 1) := by decide +kernel
theorem dX9_hash_28 : decode cX9_hash 28 = .ok (.getfield 13, 3) := by decide +kernel
theorem dX9_hash_31 : decode cX9_hash 31 = .ok (.iconst 0, 1) := by decide +kernel
theorem dX9_hash_32 : decode cX9_hash 32 = .ok (.iaload, 1) := by decide +kernel
theorem dX9_hash_33 : decode cX9_hash 33 = .ok (.invokestatic 311, 3) := by decide +kernel
theorem dX9_hash_36 : decode cX9_hash 36 = .ok (.ifCond .eq 13, 3) := by decide +kernel
theorem dX9_hash_39 : decode cX9_hash 39 = .ok (.iload_n 3, 1) := by decide +kernel
theorem dX9_hash_40 : decode cX9_hash 40 = .ok (.iconst 0, 1) := by decide +kernel
theorem dX9_hash_41 : decode cX9_hash 41 = .ok (.bipush 31, 2) := by decide +kernel
theorem dX9_hash_43 : decode cX9_hash 43 = .ok (.invokestatic 311, 3) := by decide +kernel
theorem dX9_hash_46 : decode cX9_hash 46 = .ok (.ifCond .ne 5, 3) := by decide +kernel
theorem dX9_hash_49 : decode cX9_hash 49 = .ok (.iconst (-1), 1) := by decide +kernel
theorem dX9_hash_50 : decode cX9_hash 50 = .ok (.ireturn, 1) := by decide +kernel
theorem dX9_hash_51 : decode cX9_hash 51 = .ok (.iload_n 1, 1) := by decide +kernel
theorem dX9_hash_52 : decode cX9_hash 52 = .ok (.ifCond .ne 11, 3) := by decide +kernel
theorem dX9_hash_55 : decode cX9_hash 55 = .ok (.aload_n 0, 1) := by decide +kernel
theorem dX9_hash_56 : decode cX9_hash 56 = .ok (.iload_n 2, 1) := by decide +kernel
theorem dX9_hash_57 : decode cX9_hash 57 = .ok (.invokevirtual 363, 3) := by decide +kernel
theorem dX9_hash_60 : decode cX9_hash 60 = .ok (.goto 22, 3) := by decide +kernel
theorem dX9_hash_63 : decode cX9_hash 63 = .ok (.iload_n 1, 1) := by decide +kernel
theorem dX9_hash_64 : decode cX9_hash 64 = .ok (.iconst 1, 1) := by decide +kernel
theorem dX9_hash_65 : decode cX9_hash 65 = .ok (.if_icmp .ne 12, 3) := by decide +kernel
theorem dX9_hash_68 : decode cX9_hash 68 = .ok (.aload_n 0, 1) := by decide +kernel
theorem dX9_hash_69 : decode cX9_hash 69 = .ok (.iconst 0, 1) := by decide +kernel
theorem dX9_hash_70 : decode cX9_hash 70 = .ok (.iload_n 2, 1) := by decide +kernel
theorem dX9_hash_71 : decode cX9_hash 71 = .ok (.invokevirtual 366, 3) := by decide +kernel
theorem dX9_hash_74 : decode cX9_hash 74 = .ok (.goto 8, 3) := by decide +kernel
theorem dX9_hash_77 : decode cX9_hash 77 = .ok (.aload_n 0, 1) := by decide +kernel
theorem dX9_hash_78 : decode cX9_hash 78 = .ok (.iload_n 2, 1) := by decide +kernel
theorem dX9_hash_79 : decode cX9_hash 79 = .ok (.invokevirtual 354, 3) := by decide +kernel
theorem dX9_hash_82 : decode cX9_hash 82 = .ok (.aload_n 0, 1) := by decide +kernel
theorem dX9_hash_83 : decode cX9_hash 83 = .ok (.getfield 178, 3) := by decide +kernel
theorem dX9_hash_86 : decode cX9_hash 86 = .ok (.iload_n 3, 1) := by decide +kernel
theorem dX9_hash_87 : decode cX9_hash 87 = .ok (.iaload, 1) := by decide +kernel
theorem dX9_hash_88 : decode cX9_hash 88 = .ok (.ireturn, 1) := by decide +kernel
theorem dX9_keep_0 : decode cX9_keep 0 = .ok (.iload_n 1, 1) := by decide +kernel
theorem dX9_keep_1 : decode cX9_keep 1 = .ok (.iconst 0, 1) := by decide +kernel
theorem dX9_keep_2 : decode cX9_keep 2 = .ok (.bipush 7, 2) := by decide +kernel
theorem dX9_keep_4 : decode cX9_keep 4 = .ok (.invokestatic 311, 3) := by decide +kernel
theorem dX9_keep_7 : decode cX9_keep 7 = .ok (.ifCond .ne 5, 3) := by decide +kernel
theorem dX9_keep_10 : decode cX9_keep 10 = .ok (.iconst (-1), 1) := by decide +kernel
theorem dX9_keep_11 : decode cX9_keep 11 = .ok (.ireturn, 1) := by decide +kernel
theorem dX9_keep_12 : decode cX9_keep 12 = .ok (.aload_n 0, 1) := by decide +kernel
theorem dX9_keep_13 : decode cX9_keep 13 = .ok (.getfield 190, 3) := by decide +kernel
theorem dX9_keep_16 : decode cX9_keep 16 = .ok (.iload_n 1, 1) := by decide +kernel
theorem dX9_keep_17 : decode cX9_keep 17 = .ok (.iconst 1, 1) := by decide +kernel
theorem dX9_keep_18 : decode cX9_keep 18 = .ok (.bastore, 1) := by decide +kernel
theorem dX9_keep_19 : decode cX9_keep 19 = .ok (.aload_n 0, 1) := by decide +kernel
theorem dX9_keep_20 : decode cX9_keep 20 = .ok (.getfield 187, 3) := by decide +kernel
theorem dX9_keep_23 : decode cX9_keep 23 = .ok (.iload_n 1, 1) := by decide +kernel
theorem dX9_keep_24 : decode cX9_keep 24 = .ok (.aload_n 0, 1) := by decide +kernel
theorem dX9_keep_25 : decode cX9_keep 25 = .ok (.getfield 13, 3) := by decide +kernel
theorem dX9_keep_28 : decode cX9_keep 28 = .ok (.iconst 0, 1) := by decide +kernel
theorem dX9_keep_29 : decode cX9_keep 29 = .ok (.iaload, 1) := by decide +kernel
theorem dX9_keep_30 : decode cX9_keep 30 = .ok (.iastore, 1) := by decide +kernel
theorem dX9_keep_31 : decode cX9_keep 31 = .ok (.aload_n 0, 1) := by decide +kernel
theorem dX9_keep_32 : decode cX9_keep 32 = .ok (.aload_n 0, 1) := by decide +kernel
theorem dX9_keep_33 : decode cX9_keep 33 = .ok (.getfield 13, 3) := by decide +kernel
theorem dX9_keep_36 : decode cX9_keep 36 = .ok (.iconst 0, 1) := by decide +kernel
theorem dX9_keep_37 : decode cX9_keep 37 = .ok (.iaload, 1) := by decide +kernel
theorem dX9_keep_38 : decode cX9_keep 38 = .ok (.invokevirtual 363, 3) := by decide +kernel
theorem dX9_keep_41 : decode cX9_keep 41 = .ok (.iconst 0, 1) := by decide +kernel
theorem dX9_keep_42 : decode cX9_keep 42 = .ok (.istore_n 2, 1) := by decide +kernel
theorem dX9_keep_43 : decode cX9_keep 43 = .ok (.iload_n 2, 1) := by decide +kernel
theorem dX9_keep_44 : decode cX9_keep 44 = .ok (.bipush 32, 2) := by decide +kernel
theorem dX9_keep_46 : decode cX9_keep 46 = .ok (.if_icmp .ge 26, 3) := by decide +kernel
theorem dX9_keep_49 : decode cX9_keep 49 = .ok (.aload_n 0, 1) := by decide +kernel
theorem dX9_keep_50 : decode cX9_keep 50 = .ok (.getfield 193, 3) := by decide +kernel
theorem dX9_keep_53 : decode cX9_keep 53 = .ok (.bipush 32, 2) := by decide +kernel
theorem dX9_keep_55 : decode cX9_keep 55 = .ok (.iload_n 1, 1) := by decide +kernel
theorem dX9_keep_56 : decode cX9_keep 56 = .ok (.imul, 1) := by decide +kernel
theorem dX9_keep_57 : decode cX9_keep 57 = .ok (.iload_n 2, 1) := by decide +kernel
theorem dX9_keep_58 : decode cX9_keep 58 = .ok (.iadd, 1) := by decide +kernel
theorem dX9_keep_59 : decode cX9_keep 59 = .ok (.aload_n 0, 1) := by decide +kernel
theorem dX9_keep_60 : decode cX9_keep 60 = .ok (.getfield 178, 3) := by decide +kernel
theorem dX9_keep_63 : decode cX9_keep 63 = .ok (.iload_n 2, 1) := by decide +kernel
theorem dX9_keep_64 : decode cX9_keep 64 = .ok (.iaload, 1) := by decide +kernel
theorem dX9_keep_65 : decode cX9_keep 65 = .ok (.iastore, 1) := by decide +kernel
theorem dX9_keep_66 : decode cX9_keep 66 = .ok (.iinc 2 1, 3) := by decide +kernel
theorem dX9_keep_69 : decode cX9_keep 69 = .ok (.goto (-26), 3) := by decide +kernel
theorem dX9_keep_72 : decode cX9_keep 72 = .ok (.aload_n 0, 1) := by decide +kernel
theorem dX9_keep_73 : decode cX9_keep 73 = .ok (.iconst 0, 1) := by decide +kernel
theorem dX9_keep_74 : decode cX9_keep 74 = .ok (.aload_n 0, 1) := by decide +kernel
theorem dX9_keep_75 : decode cX9_keep 75 = .ok (.getfield 13, 3) := by decide +kernel
theorem dX9_keep_78 : decode cX9_keep 78 = .ok (.iconst 0, 1) := by decide +kernel
theorem dX9_keep_79 : decode cX9_keep 79 = .ok (.iaload, 1) := by decide +kernel
theorem dX9_keep_80 : decode cX9_keep 80 = .ok (.invokevirtual 366, 3) := by decide +kernel
theorem dX9_keep_83 : decode cX9_keep 83 = .ok (.iconst 0, 1) := by decide +kernel
theorem dX9_keep_84 : decode cX9_keep 84 = .ok (.istore_n 2, 1) := by decide +kernel
theorem dX9_keep_85 : decode cX9_keep 85 = .ok (.iload_n 2, 1) := by decide +kernel
theorem dX9_keep_86 : decode cX9_keep 86 = .ok (.bipush 32, 2) := by decide +kernel
theorem dX9_keep_88 : decode cX9_keep 88 = .ok (.if_icmp .ge 26, 3) := by decide +kernel
theorem dX9_keep_91 : decode cX9_keep 91 = .ok (.aload_n 0, 1) := by decide +kernel
theorem dX9_keep_92 : decode cX9_keep 92 = .ok (.getfield 196, 3) := by decide +kernel
theorem dX9_keep_95 : decode cX9_keep 95 = .ok (.bipush 32, 2) := by decide +kernel
theorem dX9_keep_97 : decode cX9_keep 97 = .ok (.iload_n 1, 1) := by decide +kernel
theorem dX9_keep_98 : decode cX9_keep 98 = .ok (.imul, 1) := by decide +kernel
theorem dX9_keep_99 : decode cX9_keep 99 = .ok (.iload_n 2, 1) := by decide +kernel
theorem dX9_keep_100 : decode cX9_keep 100 = .ok (.iadd, 1) := by decide +kernel
theorem dX9_keep_101 : decode cX9_keep 101 = .ok (.aload_n 0, 1) := by decide +kernel
theorem dX9_keep_102 : decode cX9_keep 102 = .ok (.getfield 178, 3) := by decide +kernel
theorem dX9_keep_105 : decode cX9_keep 105 = .ok (.iload_n 2, 1) := by decide +kernel
theorem dX9_keep_106 : decode cX9_keep 106 = .ok (.iaload, 1) := by decide +kernel
theorem dX9_keep_107 : decode cX9_keep 107 = .ok (.iastore, 1) := by decide +kernel
theorem dX9_keep_108 : decode cX9_keep 108 = .ok (.iinc 2 1, 3) := by decide +kernel
theorem dX9_keep_111 : decode cX9_keep 111 = .ok (.goto (-26), 3) := by decide +kernel
theorem dX9_keep_114 : decode cX9_keep 114 = .ok (.aload_n 0, 1) := by decide +kernel
theorem dX9_keep_115 : decode cX9_keep 115 = .ok (.getfield 13, 3) := by decide +kernel
theorem dX9_keep_118 : decode cX9_keep 118 = .ok (.iconst 0, 1) := by decide +kernel
theorem dX9_keep_119 : decode cX9_keep 119 = .ok (.iaload, 1) := by decide +kernel
theorem dX9_keep_120 : decode cX9_keep 120 = .ok (.ireturn, 1) := by decide +kernel
theorem dX9_isAs_0 : decode cX9_isAs 0 = .ok (.iconst 1, 1) := by decide +kernel
theorem dX9_isAs_1 : decode cX9_isAs 1 = .ok (.istore_n 3, 1) := by decide +kernel
theorem dX9_isAs_2 : decode cX9_isAs 2 = .ok (.iconst 0, 1) := by decide +kernel
theorem dX9_isAs_3 : decode cX9_isAs 3 = .ok (.istore 4, 2) := by decide +kernel
theorem dX9_isAs_5 : decode cX9_isAs 5 = .ok (.iload 4, 2) := by decide +kernel
theorem dX9_isAs_7 : decode cX9_isAs 7 = .ok (.bipush 32, 2) := by decide +kernel
theorem dX9_isAs_9 : decode cX9_isAs 9 = .ok (.if_icmp .ge 38, 3) := by decide +kernel
theorem dX9_isAs_12 : decode cX9_isAs 12 = .ok (.iload_n 3, 1) := by decide +kernel
theorem dX9_isAs_13 : decode cX9_isAs 13 = .ok (.ifCond .eq 26, 3) := by decide +kernel
theorem dX9_isAs_16 : decode cX9_isAs 16 = .ok (.aload_n 1, 1) := by decide +kernel
theorem dX9_isAs_17 : decode cX9_isAs 17 = .ok (.bipush 32, 2) := by decide +kernel
theorem dX9_isAs_19 : decode cX9_isAs 19 = .ok (.iload_n 2, 1) := by decide +kernel
theorem dX9_isAs_20 : decode cX9_isAs 20 = .ok (.imul, 1) := by decide +kernel
theorem dX9_isAs_21 : decode cX9_isAs 21 = .ok (.iload 4, 2) := by decide +kernel
theorem dX9_isAs_23 : decode cX9_isAs 23 = .ok (.iadd, 1) := by decide +kernel
theorem dX9_isAs_24 : decode cX9_isAs 24 = .ok (.iaload, 1) := by decide +kernel
theorem dX9_isAs_25 : decode cX9_isAs 25 = .ok (.aload_n 0, 1) := by decide +kernel
theorem dX9_isAs_26 : decode cX9_isAs 26 = .ok (.getfield 178, 3) := by decide +kernel
theorem dX9_isAs_29 : decode cX9_isAs 29 = .ok (.iload 4, 2) := by decide +kernel
theorem dX9_isAs_31 : decode cX9_isAs 31 = .ok (.iaload, 1) := by decide +kernel
theorem dX9_isAs_32 : decode cX9_isAs 32 = .ok (.if_icmp .ne 7, 3) := by decide +kernel
theorem dX9_isAs_35 : decode cX9_isAs 35 = .ok (.iconst 1, 1) := by decide +kernel
theorem dX9_isAs_36 : decode cX9_isAs 36 = .ok (.goto 4, 3) := by decide +kernel
theorem dX9_isAs_39 : decode cX9_isAs 39 = .ok (.iconst 0, 1) := by decide +kernel
theorem dX9_isAs_40 : decode cX9_isAs 40 = .ok (.istore_n 3, 1) := by decide +kernel
theorem dX9_isAs_41 : decode cX9_isAs 41 = .ok (.iinc 4 1, 3) := by decide +kernel
theorem dX9_isAs_44 : decode cX9_isAs 44 = .ok (.goto (-39), 3) := by decide +kernel
theorem dX9_isAs_47 : decode cX9_isAs 47 = .ok (.iload_n 3, 1) := by decide +kernel
theorem dX9_isAs_48 : decode cX9_isAs 48 = .ok (.ireturn, 1) := by decide +kernel
theorem dX9_verify_0 : decode cX9_verify 0 = .ok (.iload_n 1, 1) := by decide +kernel
theorem dX9_verify_1 : decode cX9_verify 1 = .ok (.iconst 0, 1) := by decide +kernel
theorem dX9_verify_2 : decode cX9_verify 2 = .ok (.bipush 7, 2) := by decide +kernel
theorem dX9_verify_4 : decode cX9_verify 4 = .ok (.invokestatic 311, 3) := by decide +kernel
theorem dX9_verify_7 : decode cX9_verify 7 = .ok (.ifCond .eq 12, 3) := by decide +kernel
theorem dX9_verify_10 : decode cX9_verify 10 = .ok (.aload_n 0, 1) := by decide +kernel
theorem dX9_verify_11 : decode cX9_verify 11 = .ok (.getfield 190, 3) := by decide +kernel
theorem dX9_verify_14 : decode cX9_verify 14 = .ok (.iload_n 1, 1) := by decide +kernel
theorem dX9_verify_15 : decode cX9_verify 15 = .ok (.baload, 1) := by decide +kernel
theorem dX9_verify_16 : decode cX9_verify 16 = .ok (.ifCond .ne 5, 3) := by decide +kernel
theorem dX9_verify_19 : decode cX9_verify 19 = .ok (.iconst (-1), 1) := by decide +kernel
theorem dX9_verify_20 : decode cX9_verify 20 = .ok (.ireturn, 1) := by decide +kernel
theorem dX9_verify_21 : decode cX9_verify 21 = .ok (.aload_n 0, 1) := by decide +kernel
theorem dX9_verify_22 : decode cX9_verify 22 = .ok (.aload_n 0, 1) := by decide +kernel
theorem dX9_verify_23 : decode cX9_verify 23 = .ok (.getfield 187, 3) := by decide +kernel
theorem dX9_verify_26 : decode cX9_verify 26 = .ok (.iload_n 1, 1) := by decide +kernel
theorem dX9_verify_27 : decode cX9_verify 27 = .ok (.iaload, 1) := by decide +kernel
theorem dX9_verify_28 : decode cX9_verify 28 = .ok (.invokevirtual 363, 3) := by decide +kernel
theorem dX9_verify_31 : decode cX9_verify 31 = .ok (.aload_n 0, 1) := by decide +kernel
theorem dX9_verify_32 : decode cX9_verify 32 = .ok (.aload_n 0, 1) := by decide +kernel
theorem dX9_verify_33 : decode cX9_verify 33 = .ok (.getfield 193, 3) := by decide +kernel
theorem dX9_verify_36 : decode cX9_verify 36 = .ok (.iload_n 1, 1) := by decide +kernel
theorem dX9_verify_37 : decode cX9_verify 37 = .ok (.invokevirtual 370, 3) := by decide +kernel
theorem dX9_verify_40 : decode cX9_verify 40 = .ok (.ifCond .ne 5, 3) := by decide +kernel
theorem dX9_verify_43 : decode cX9_verify 43 = .ok (.iconst 1, 1) := by decide +kernel
theorem dX9_verify_44 : decode cX9_verify 44 = .ok (.ireturn, 1) := by decide +kernel
theorem dX9_verify_45 : decode cX9_verify 45 = .ok (.aload_n 0, 1) := by decide +kernel
theorem dX9_verify_46 : decode cX9_verify 46 = .ok (.iconst 0, 1) := by decide +kernel
theorem dX9_verify_47 : decode cX9_verify 47 = .ok (.aload_n 0, 1) := by decide +kernel
theorem dX9_verify_48 : decode cX9_verify 48 = .ok (.getfield 187, 3) := by decide +kernel
theorem dX9_verify_51 : decode cX9_verify 51 = .ok (.iload_n 1, 1) := by decide +kernel
theorem dX9_verify_52 : decode cX9_verify 52 = .ok (.iaload, 1) := by decide +kernel
theorem dX9_verify_53 : decode cX9_verify 53 = .ok (.invokevirtual 366, 3) := by decide +kernel
theorem dX9_verify_56 : decode cX9_verify 56 = .ok (.aload_n 0, 1) := by decide +kernel
theorem dX9_verify_57 : decode cX9_verify 57 = .ok (.aload_n 0, 1) := by decide +kernel
theorem dX9_verify_58 : decode cX9_verify 58 = .ok (.getfield 196, 3) := by decide +kernel
theorem dX9_verify_61 : decode cX9_verify 61 = .ok (.iload_n 1, 1) := by decide +kernel
theorem dX9_verify_62 : decode cX9_verify 62 = .ok (.invokevirtual 370, 3) := by decide +kernel
theorem dX9_verify_65 : decode cX9_verify 65 = .ok (.ifCond .eq 7, 3) := by decide +kernel
theorem dX9_verify_68 : decode cX9_verify 68 = .ok (.iconst 0, 1) := by decide +kernel
theorem dX9_verify_69 : decode cX9_verify 69 = .ok (.goto 4, 3) := by decide +kernel
theorem dX9_verify_72 : decode cX9_verify 72 = .ok (.iconst 2, 1) := by decide +kernel
theorem dX9_verify_73 : decode cX9_verify 73 = .ok (.ireturn, 1) := by decide +kernel
theorem dX9_half_0 : decode cX9_half 0 = .ok (.iconst 1, 1) := by decide +kernel
theorem dX9_half_1 : decode cX9_half 1 = .ok (.istore_n 1, 1) := by decide +kernel
theorem dX9_half_2 : decode cX9_half 2 = .ok (.iconst 2, 1) := by decide +kernel
theorem dX9_half_3 : decode cX9_half 3 = .ok (.iload_n 1, 1) := by decide +kernel
theorem dX9_half_4 : decode cX9_half 4 = .ok (.imul, 1) := by decide +kernel
theorem dX9_half_5 : decode cX9_half 5 = .ok (.iload_n 0, 1) := by decide +kernel
theorem dX9_half_6 : decode cX9_half 6 = .ok (.if_icmp .ge 10, 3) := by decide +kernel
theorem dX9_half_9 : decode cX9_half 9 = .ok (.iconst 2, 1) := by decide +kernel
theorem dX9_half_10 : decode cX9_half 10 = .ok (.iload_n 1, 1) := by decide +kernel
theorem dX9_half_11 : decode cX9_half 11 = .ok (.imul, 1) := by decide +kernel
theorem dX9_half_12 : decode cX9_half 12 = .ok (.istore_n 1, 1) := by decide +kernel
theorem dX9_half_13 : decode cX9_half 13 = .ok (.goto (-11), 3) := by decide +kernel
theorem dX9_half_16 : decode cX9_half 16 = .ok (.iload_n 1, 1) := by decide +kernel
theorem dX9_half_17 : decode cX9_half 17 = .ok (.ireturn, 1) := by decide +kernel
theorem dX9_down_0 : decode cX9_down 0 = .ok (.iconst 0, 1) := by decide +kernel
theorem dX9_down_1 : decode cX9_down 1 = .ok (.istore 4, 2) := by decide +kernel
theorem dX9_down_3 : decode cX9_down 3 = .ok (.iload_n 2, 1) := by decide +kernel
theorem dX9_down_4 : decode cX9_down 4 = .ok (.istore 5, 2) := by decide +kernel
theorem dX9_down_6 : decode cX9_down 6 = .ok (.iload_n 1, 1) := by decide +kernel
theorem dX9_down_7 : decode cX9_down 7 = .ok (.istore 6, 2) := by decide +kernel
theorem dX9_down_9 : decode cX9_down 9 = .ok (.aload_n 0, 1) := by decide +kernel
theorem dX9_down_10 : decode cX9_down 10 = .ok (.iconst 1, 1) := by decide +kernel
theorem dX9_down_11 : decode cX9_down 11 = .ok (.putfield 374, 3) := by decide +kernel
theorem dX9_down_14 : decode cX9_down 14 = .ok (.aload_n 0, 1) := by decide +kernel
theorem dX9_down_15 : decode cX9_down 15 = .ok (.iconst 0, 1) := by decide +kernel
theorem dX9_down_16 : decode cX9_down 16 = .ok (.putfield 378, 3) := by decide +kernel
theorem dX9_down_19 : decode cX9_down 19 = .ok (.iload_n 3, 1) := by decide +kernel
theorem dX9_down_20 : decode cX9_down 20 = .ok (.ifCond .eq 15, 3) := by decide +kernel
theorem dX9_down_23 : decode cX9_down 23 = .ok (.iload 5, 2) := by decide +kernel
theorem dX9_down_25 : decode cX9_down 25 = .ok (.iload 4, 2) := by decide +kernel
theorem dX9_down_27 : decode cX9_down 27 = .ok (.isub, 1) := by decide +kernel
theorem dX9_down_28 : decode cX9_down 28 = .ok (.iconst 1, 1) := by decide +kernel
theorem dX9_down_29 : decode cX9_down 29 = .ok (.if_icmp .le 173, 3) := by decide +kernel
theorem dX9_down_32 : decode cX9_down 32 = .ok (.goto 13, 3) := by decide +kernel
theorem dX9_down_35 : decode cX9_down 35 = .ok (.iload 6, 2) := by decide +kernel
theorem dX9_down_37 : decode cX9_down 37 = .ok (.iload 5, 2) := by decide +kernel
theorem dX9_down_39 : decode cX9_down 39 = .ok (.iload 4, 2) := by decide +kernel
theorem dX9_down_41 : decode cX9_down 41 = .ok (.isub, 1) := by decide +kernel
theorem dX9_down_42 : decode cX9_down 42 = .ok (.if_icmp .eq 160, 3) := by decide +kernel
theorem dX9_down_45 : decode cX9_down 45 = .ok (.iload 5, 2) := by decide +kernel
theorem dX9_down_47 : decode cX9_down 47 = .ok (.iload 4, 2) := by decide +kernel
theorem dX9_down_49 : decode cX9_down 49 = .ok (.isub, 1) := by decide +kernel
theorem dX9_down_50 : decode cX9_down 50 = .ok (.invokestatic 381, 3) := by decide +kernel
theorem dX9_down_53 : decode cX9_down 53 = .ok (.istore 7, 2) := by decide +kernel
theorem dX9_down_55 : decode cX9_down 55 = .ok (.iload_n 3, 1) := by decide +kernel
theorem dX9_down_56 : decode cX9_down 56 = .ok (.ifCond .eq 18, 3) := by decide +kernel
theorem dX9_down_59 : decode cX9_down 59 = .ok (.iload 6, 2) := by decide +kernel
theorem dX9_down_61 : decode cX9_down 61 = .ok (.iload 7, 2) := by decide +kernel
theorem dX9_down_63 : decode cX9_down 63 = .ok (.if_icmp .ge 7, 3) := by decide +kernel
theorem dX9_down_66 : decode cX9_down 66 = .ok (.iconst 1, 1) := by decide +kernel
theorem dX9_down_67 : decode cX9_down 67 = .ok (.goto 19, 3) := by decide +kernel
theorem dX9_down_70 : decode cX9_down 70 = .ok (.iconst 0, 1) := by decide +kernel
theorem dX9_down_71 : decode cX9_down 71 = .ok (.goto 15, 3) := by decide +kernel
theorem dX9_down_74 : decode cX9_down 74 = .ok (.iload 6, 2) := by decide +kernel
theorem dX9_down_76 : decode cX9_down 76 = .ok (.iload 7, 2) := by decide +kernel
theorem dX9_down_78 : decode cX9_down 78 = .ok (.if_icmp .gt 7, 3) := by decide +kernel
theorem dX9_down_81 : decode cX9_down 81 = .ok (.iconst 1, 1) := by decide +kernel
theorem dX9_down_82 : decode cX9_down 82 = .ok (.goto 4, 3) := by decide +kernel
theorem dX9_down_85 : decode cX9_down 85 = .ok (.iconst 0, 1) := by decide +kernel
theorem dX9_down_86 : decode cX9_down 86 = .ok (.istore 8, 2) := by decide +kernel
theorem dX9_down_88 : decode cX9_down 88 = .ok (.aload_n 0, 1) := by decide +kernel
theorem dX9_down_89 : decode cX9_down 89 = .ok (.getfield 202, 3) := by decide +kernel
theorem dX9_down_92 : decode cX9_down 92 = .ok (.aload_n 0, 1) := by decide +kernel
theorem dX9_down_93 : decode cX9_down 93 = .ok (.getfield 378, 3) := by decide +kernel
theorem dX9_down_96 : decode cX9_down 96 = .ok (.iload 8, 2) := by decide +kernel
theorem dX9_down_98 : decode cX9_down 98 = .ok (.ifCond .ne 7, 3) := by decide +kernel
theorem dX9_down_101 : decode cX9_down 101 = .ok (.iconst 1, 1) := by decide +kernel
theorem dX9_down_102 : decode cX9_down 102 = .ok (.goto 4, 3) := by decide +kernel
theorem dX9_down_105 : decode cX9_down 105 = .ok (.iconst 0, 1) := by decide +kernel
theorem dX9_down_106 : decode cX9_down 106 = .ok (.bastore, 1) := by decide +kernel
theorem dX9_down_107 : decode cX9_down 107 = .ok (.aload_n 0, 1) := by decide +kernel
theorem dX9_down_108 : decode cX9_down 108 = .ok (.getfield 205, 3) := by decide +kernel
theorem dX9_down_111 : decode cX9_down 111 = .ok (.aload_n 0, 1) := by decide +kernel
theorem dX9_down_112 : decode cX9_down 112 = .ok (.getfield 378, 3) := by decide +kernel
theorem dX9_down_115 : decode cX9_down 115 = .ok (.iload 8, 2) := by decide +kernel
theorem dX9_down_117 : decode cX9_down 117 = .ok (.ifCond .eq 11, 3) := by decide +kernel
theorem dX9_down_120 : decode cX9_down 120 = .ok (.iload 4, 2) := by decide +kernel
theorem dX9_down_122 : decode cX9_down 122 = .ok (.iload 7, 2) := by decide +kernel
theorem dX9_down_124 : decode cX9_down 124 = .ok (.iadd, 1) := by decide +kernel
theorem dX9_down_125 : decode cX9_down 125 = .ok (.goto 5, 3) := by decide +kernel
theorem dX9_down_128 : decode cX9_down 128 = .ok (.iload 4, 2) := by decide +kernel
theorem dX9_down_130 : decode cX9_down 130 = .ok (.iastore, 1) := by decide +kernel
theorem dX9_down_131 : decode cX9_down 131 = .ok (.aload_n 0, 1) := by decide +kernel
theorem dX9_down_132 : decode cX9_down 132 = .ok (.getfield 208, 3) := by decide +kernel
theorem dX9_down_135 : decode cX9_down 135 = .ok (.aload_n 0, 1) := by decide +kernel
theorem dX9_down_136 : decode cX9_down 136 = .ok (.getfield 378, 3) := by decide +kernel
theorem dX9_down_139 : decode cX9_down 139 = .ok (.iload 8, 2) := by decide +kernel
theorem dX9_down_141 : decode cX9_down 141 = .ok (.ifCond .eq 8, 3) := by decide +kernel
theorem dX9_down_144 : decode cX9_down 144 = .ok (.iload 5, 2) := by decide +kernel
theorem dX9_down_146 : decode cX9_down 146 = .ok (.goto 8, 3) := by decide +kernel
theorem dX9_down_149 : decode cX9_down 149 = .ok (.iload 4, 2) := by decide +kernel
theorem dX9_down_151 : decode cX9_down 151 = .ok (.iload 7, 2) := by decide +kernel
theorem dX9_down_153 : decode cX9_down 153 = .ok (.iadd, 1) := by decide +kernel
theorem dX9_down_154 : decode cX9_down 154 = .ok (.iastore, 1) := by decide +kernel
theorem dX9_down_155 : decode cX9_down 155 = .ok (.iload 8, 2) := by decide +kernel
theorem dX9_down_157 : decode cX9_down 157 = .ok (.ifCond .eq 13, 3) := by decide +kernel
theorem dX9_down_160 : decode cX9_down 160 = .ok (.iload 4, 2) := by decide +kernel
theorem dX9_down_162 : decode cX9_down 162 = .ok (.iload 7, 2) := by decide +kernel
theorem dX9_down_164 : decode cX9_down 164 = .ok (.iadd, 1) := by decide +kernel
theorem dX9_down_165 : decode cX9_down 165 = .ok (.istore 5, 2) := by decide +kernel
theorem dX9_down_167 : decode cX9_down 167 = .ok (.goto 22, 3) := by decide +kernel
theorem dX9_down_170 : decode cX9_down 170 = .ok (.iload 4, 2) := by decide +kernel
theorem dX9_down_172 : decode cX9_down 172 = .ok (.iload 7, 2) := by decide +kernel
theorem dX9_down_174 : decode cX9_down 174 = .ok (.iadd, 1) := by decide +kernel
theorem dX9_down_175 : decode cX9_down 175 = .ok (.istore 4, 2) := by decide +kernel
theorem dX9_down_177 : decode cX9_down 177 = .ok (.iload 6, 2) := by decide +kernel
theorem dX9_down_179 : decode cX9_down 179 = .ok (.iload 7, 2) := by decide +kernel
theorem dX9_down_181 : decode cX9_down 181 = .ok (.isub, 1) := by decide +kernel
theorem dX9_down_182 : decode cX9_down 182 = .ok (.istore 6, 2) := by decide +kernel
theorem dX9_down_184 : decode cX9_down 184 = .ok (.aload_n 0, 1) := by decide +kernel
theorem dX9_down_185 : decode cX9_down 185 = .ok (.iconst 0, 1) := by decide +kernel
theorem dX9_down_186 : decode cX9_down 186 = .ok (.putfield 374, 3) := by decide +kernel
theorem dX9_down_189 : decode cX9_down 189 = .ok (.aload_n 0, 1) := by decide +kernel
theorem dX9_down_190 : decode cX9_down 190 = .ok (.dup, 1) := by decide +kernel
theorem dX9_down_191 : decode cX9_down 191 = .ok (.getfield 378, 3) := by decide +kernel
theorem dX9_down_194 : decode cX9_down 194 = .ok (.iconst 1, 1) := by decide +kernel
theorem dX9_down_195 : decode cX9_down 195 = .ok (.iadd, 1) := by decide +kernel
theorem dX9_down_196 : decode cX9_down 196 = .ok (.putfield 378, 3) := by decide +kernel
theorem dX9_down_199 : decode cX9_down 199 = .ok (.goto (-180), 3) := by decide +kernel
theorem dX9_down_202 : decode cX9_down 202 = .ok (.aload_n 0, 1) := by decide +kernel
theorem dX9_down_203 : decode cX9_down 203 = .ok (.iload 4, 2) := by decide +kernel
theorem dX9_down_205 : decode cX9_down 205 = .ok (.putfield 384, 3) := by decide +kernel
theorem dX9_down_208 : decode cX9_down 208 = .ok (.aload_n 0, 1) := by decide +kernel
theorem dX9_down_209 : decode cX9_down 209 = .ok (.iload 5, 2) := by decide +kernel
theorem dX9_down_211 : decode cX9_down 211 = .ok (.putfield 387, 3) := by decide +kernel
theorem dX9_down_214 : decode cX9_down 214 = .ok (.return_, 1) := by decide +kernel
theorem dX9_step_0 : decode cX9_step 0 = .ok (.iconst 0, 1) := by decide +kernel
theorem dX9_step_1 : decode cX9_step 1 = .ok (.istore_n 1, 1) := by decide +kernel
theorem dX9_step_2 : decode cX9_step 2 = .ok (.iload_n 1, 1) := by decide +kernel
theorem dX9_step_3 : decode cX9_step 3 = .ok (.bipush 32, 2) := by decide +kernel
theorem dX9_step_5 : decode cX9_step 5 = .ok (.if_icmp .ge 29, 3) := by decide +kernel
theorem dX9_step_8 : decode cX9_step 8 = .ok (.aload_n 0, 1) := by decide +kernel
theorem dX9_step_9 : decode cX9_step 9 = .ok (.getfield 199, 3) := by decide +kernel
theorem dX9_step_12 : decode cX9_step 12 = .ok (.bipush 32, 2) := by decide +kernel
theorem dX9_step_14 : decode cX9_step 14 = .ok (.aload_n 0, 1) := by decide +kernel
theorem dX9_step_15 : decode cX9_step 15 = .ok (.getfield 390, 3) := by decide +kernel
theorem dX9_step_18 : decode cX9_step 18 = .ok (.imul, 1) := by decide +kernel
theorem dX9_step_19 : decode cX9_step 19 = .ok (.iload_n 1, 1) := by decide +kernel
theorem dX9_step_20 : decode cX9_step 20 = .ok (.iadd, 1) := by decide +kernel
theorem dX9_step_21 : decode cX9_step 21 = .ok (.aload_n 0, 1) := by decide +kernel
theorem dX9_step_22 : decode cX9_step 22 = .ok (.getfield 178, 3) := by decide +kernel
theorem dX9_step_25 : decode cX9_step 25 = .ok (.iload_n 1, 1) := by decide +kernel
theorem dX9_step_26 : decode cX9_step 26 = .ok (.iaload, 1) := by decide +kernel
theorem dX9_step_27 : decode cX9_step 27 = .ok (.iastore, 1) := by decide +kernel
theorem dX9_step_28 : decode cX9_step 28 = .ok (.iinc 1 1, 3) := by decide +kernel
theorem dX9_step_31 : decode cX9_step 31 = .ok (.goto (-29), 3) := by decide +kernel
theorem dX9_step_34 : decode cX9_step 34 = .ok (.aload_n 0, 1) := by decide +kernel
theorem dX9_step_35 : decode cX9_step 35 = .ok (.dup, 1) := by decide +kernel
theorem dX9_step_36 : decode cX9_step 36 = .ok (.getfield 390, 3) := by decide +kernel
theorem dX9_step_39 : decode cX9_step 39 = .ok (.iconst 1, 1) := by decide +kernel
theorem dX9_step_40 : decode cX9_step 40 = .ok (.iadd, 1) := by decide +kernel
theorem dX9_step_41 : decode cX9_step 41 = .ok (.putfield 390, 3) := by decide +kernel
theorem dX9_step_44 : decode cX9_step 44 = .ok (.return_, 1) := by decide +kernel
theorem dX9_sides_0 : decode cX9_sides 0 = .ok (.aload_n 0, 1) := by decide +kernel
theorem dX9_sides_1 : decode cX9_sides 1 = .ok (.getfield 378, 3) := by decide +kernel
theorem dX9_sides_4 : decode cX9_sides 4 = .ok (.iconst 1, 1) := by decide +kernel
theorem dX9_sides_5 : decode cX9_sides 5 = .ok (.isub, 1) := by decide +kernel
theorem dX9_sides_6 : decode cX9_sides 6 = .ok (.istore_n 1, 1) := by decide +kernel
theorem dX9_sides_7 : decode cX9_sides 7 = .ok (.iload_n 1, 1) := by decide +kernel
theorem dX9_sides_8 : decode cX9_sides 8 = .ok (.ifCond .lt 29, 3) := by decide +kernel
theorem dX9_sides_11 : decode cX9_sides 11 = .ok (.aload_n 0, 1) := by decide +kernel
theorem dX9_sides_12 : decode cX9_sides 12 = .ok (.aload_n 0, 1) := by decide +kernel
theorem dX9_sides_13 : decode cX9_sides 13 = .ok (.getfield 205, 3) := by decide +kernel
theorem dX9_sides_16 : decode cX9_sides 16 = .ok (.iload_n 1, 1) := by decide +kernel
theorem dX9_sides_17 : decode cX9_sides 17 = .ok (.iaload, 1) := by decide +kernel
theorem dX9_sides_18 : decode cX9_sides 18 = .ok (.aload_n 0, 1) := by decide +kernel
theorem dX9_sides_19 : decode cX9_sides 19 = .ok (.getfield 208, 3) := by decide +kernel
theorem dX9_sides_22 : decode cX9_sides 22 = .ok (.iload_n 1, 1) := by decide +kernel
theorem dX9_sides_23 : decode cX9_sides 23 = .ok (.iaload, 1) := by decide +kernel
theorem dX9_sides_24 : decode cX9_sides 24 = .ok (.invokevirtual 366, 3) := by decide +kernel
theorem dX9_sides_27 : decode cX9_sides 27 = .ok (.aload_n 0, 1) := by decide +kernel
theorem dX9_sides_28 : decode cX9_sides 28 = .ok (.invokevirtual 393, 3) := by decide +kernel
theorem dX9_sides_31 : decode cX9_sides 31 = .ok (.iinc 1 (-1), 3) := by decide +kernel
theorem dX9_sides_34 : decode cX9_sides 34 = .ok (.goto (-27), 3) := by decide +kernel
theorem dX9_sides_37 : decode cX9_sides 37 = .ok (.return_, 1) := by decide +kernel
theorem dX9_path_0 : decode cX9_path 0 = .ok (.iload_n 2, 1) := by decide +kernel
theorem dX9_path_1 : decode cX9_path 1 = .ok (.iconst 1, 1) := by decide +kernel
theorem dX9_path_2 : decode cX9_path 2 = .ok (.aload_n 0, 1) := by decide +kernel
theorem dX9_path_3 : decode cX9_path 3 = .ok (.getfield 13, 3) := by decide +kernel
theorem dX9_path_6 : decode cX9_path 6 = .ok (.iconst 0, 1) := by decide +kernel
theorem dX9_path_7 : decode cX9_path 7 = .ok (.iaload, 1) := by decide +kernel
theorem dX9_path_8 : decode cX9_path 8 = .ok (.invokestatic 311, 3) := by decide +kernel
theorem dX9_path_11 : decode cX9_path 11 = .ok (.ifCond .eq 14, 3) := by decide +kernel
theorem dX9_path_14 : decode cX9_path 14 = .ok (.iload_n 1, 1) := by decide +kernel
theorem dX9_path_15 : decode cX9_path 15 = .ok (.iconst 0, 1) := by decide +kernel
theorem dX9_path_16 : decode cX9_path 16 = .ok (.iload_n 2, 1) := by decide +kernel
theorem dX9_path_17 : decode cX9_path 17 = .ok (.iconst 1, 1) := by decide +kernel
theorem dX9_path_18 : decode cX9_path 18 = .ok (.isub, 1) := by decide +kernel
theorem dX9_path_19 : decode cX9_path 19 = .ok (.invokestatic 311, 3) := by decide +kernel
theorem dX9_path_22 : decode cX9_path 22 = .ok (.ifCond .ne 5, 3) := by decide +kernel
theorem dX9_path_25 : decode cX9_path 25 = .ok (.iconst (-1), 1) := by decide +kernel
theorem dX9_path_26 : decode cX9_path 26 = .ok (.ireturn, 1) := by decide +kernel
theorem dX9_path_27 : decode cX9_path 27 = .ok (.aload_n 0, 1) := by decide +kernel
theorem dX9_path_28 : decode cX9_path 28 = .ok (.iconst 1, 1) := by decide +kernel
theorem dX9_path_29 : decode cX9_path 29 = .ok (.putfield 396, 3) := by decide +kernel
theorem dX9_path_32 : decode cX9_path 32 = .ok (.aload_n 0, 1) := by decide +kernel
theorem dX9_path_33 : decode cX9_path 33 = .ok (.iload_n 1, 1) := by decide +kernel
theorem dX9_path_34 : decode cX9_path 34 = .ok (.putfield 399, 3) := by decide +kernel
theorem dX9_path_37 : decode cX9_path 37 = .ok (.aload_n 0, 1) := by decide +kernel
theorem dX9_path_38 : decode cX9_path 38 = .ok (.iload_n 2, 1) := by decide +kernel
theorem dX9_path_39 : decode cX9_path 39 = .ok (.putfield 402, 3) := by decide +kernel
theorem dX9_path_42 : decode cX9_path 42 = .ok (.aload_n 0, 1) := by decide +kernel
theorem dX9_path_43 : decode cX9_path 43 = .ok (.iconst 0, 1) := by decide +kernel
theorem dX9_path_44 : decode cX9_path 44 = .ok (.putfield 390, 3) := by decide +kernel
theorem dX9_path_47 : decode cX9_path 47 = .ok (.aload_n 0, 1) := by decide +kernel
theorem dX9_path_48 : decode cX9_path 48 = .ok (.iload_n 1, 1) := by decide +kernel
theorem dX9_path_49 : decode cX9_path 49 = .ok (.iload_n 2, 1) := by decide +kernel
theorem dX9_path_50 : decode cX9_path 50 = .ok (.iconst 1, 1) := by decide +kernel
theorem dX9_path_51 : decode cX9_path 51 = .ok (.invokevirtual 405, 3) := by decide +kernel
theorem dX9_path_54 : decode cX9_path 54 = .ok (.aload_n 0, 1) := by decide +kernel
theorem dX9_path_55 : decode cX9_path 55 = .ok (.invokevirtual 409, 3) := by decide +kernel
theorem dX9_path_58 : decode cX9_path 58 = .ok (.aload_n 0, 1) := by decide +kernel
theorem dX9_path_59 : decode cX9_path 59 = .ok (.getfield 390, 3) := by decide +kernel
theorem dX9_path_62 : decode cX9_path 62 = .ok (.ireturn, 1) := by decide +kernel
theorem dX9_proof_0 : decode cX9_proof 0 = .ok (.iload_n 2, 1) := by decide +kernel
theorem dX9_proof_1 : decode cX9_proof 1 = .ok (.iconst 2, 1) := by decide +kernel
theorem dX9_proof_2 : decode cX9_proof 2 = .ok (.aload_n 0, 1) := by decide +kernel
theorem dX9_proof_3 : decode cX9_proof 3 = .ok (.getfield 13, 3) := by decide +kernel
theorem dX9_proof_6 : decode cX9_proof 6 = .ok (.iconst 0, 1) := by decide +kernel
theorem dX9_proof_7 : decode cX9_proof 7 = .ok (.iaload, 1) := by decide +kernel
theorem dX9_proof_8 : decode cX9_proof 8 = .ok (.invokestatic 311, 3) := by decide +kernel
theorem dX9_proof_11 : decode cX9_proof 11 = .ok (.ifCond .eq 14, 3) := by decide +kernel
theorem dX9_proof_14 : decode cX9_proof 14 = .ok (.iload_n 1, 1) := by decide +kernel
theorem dX9_proof_15 : decode cX9_proof 15 = .ok (.iconst 1, 1) := by decide +kernel
theorem dX9_proof_16 : decode cX9_proof 16 = .ok (.iload_n 2, 1) := by decide +kernel
theorem dX9_proof_17 : decode cX9_proof 17 = .ok (.iconst 1, 1) := by decide +kernel
theorem dX9_proof_18 : decode cX9_proof 18 = .ok (.isub, 1) := by decide +kernel
theorem dX9_proof_19 : decode cX9_proof 19 = .ok (.invokestatic 311, 3) := by decide +kernel
theorem dX9_proof_22 : decode cX9_proof 22 = .ok (.ifCond .ne 5, 3) := by decide +kernel
theorem dX9_proof_25 : decode cX9_proof 25 = .ok (.iconst (-1), 1) := by decide +kernel
theorem dX9_proof_26 : decode cX9_proof 26 = .ok (.ireturn, 1) := by decide +kernel
theorem dX9_proof_27 : decode cX9_proof 27 = .ok (.aload_n 0, 1) := by decide +kernel
theorem dX9_proof_28 : decode cX9_proof 28 = .ok (.iconst 2, 1) := by decide +kernel
theorem dX9_proof_29 : decode cX9_proof 29 = .ok (.putfield 396, 3) := by decide +kernel
theorem dX9_proof_32 : decode cX9_proof 32 = .ok (.aload_n 0, 1) := by decide +kernel
theorem dX9_proof_33 : decode cX9_proof 33 = .ok (.iload_n 1, 1) := by decide +kernel
theorem dX9_proof_34 : decode cX9_proof 34 = .ok (.putfield 399, 3) := by decide +kernel
theorem dX9_proof_37 : decode cX9_proof 37 = .ok (.aload_n 0, 1) := by decide +kernel
theorem dX9_proof_38 : decode cX9_proof 38 = .ok (.iload_n 2, 1) := by decide +kernel
theorem dX9_proof_39 : decode cX9_proof 39 = .ok (.putfield 402, 3) := by decide +kernel
theorem dX9_proof_42 : decode cX9_proof 42 = .ok (.aload_n 0, 1) := by decide +kernel
theorem dX9_proof_43 : decode cX9_proof 43 = .ok (.iconst 0, 1) := by decide +kernel
theorem dX9_proof_44 : decode cX9_proof 44 = .ok (.putfield 390, 3) := by decide +kernel
theorem dX9_proof_47 : decode cX9_proof 47 = .ok (.aload_n 0, 1) := by decide +kernel
theorem dX9_proof_48 : decode cX9_proof 48 = .ok (.iload_n 1, 1) := by decide +kernel
theorem dX9_proof_49 : decode cX9_proof 49 = .ok (.iload_n 2, 1) := by decide +kernel
theorem dX9_proof_50 : decode cX9_proof 50 = .ok (.iconst 0, 1) := by decide +kernel
theorem dX9_proof_51 : decode cX9_proof 51 = .ok (.invokevirtual 405, 3) := by decide +kernel
theorem dX9_proof_54 : decode cX9_proof 54 = .ok (.aload_n 0, 1) := by decide +kernel
theorem dX9_proof_55 : decode cX9_proof 55 = .ok (.getfield 374, 3) := by decide +kernel
theorem dX9_proof_58 : decode cX9_proof 58 = .ok (.ifCond .ne 19, 3) := by decide +kernel
theorem dX9_proof_61 : decode cX9_proof 61 = .ok (.aload_n 0, 1) := by decide +kernel
theorem dX9_proof_62 : decode cX9_proof 62 = .ok (.aload_n 0, 1) := by decide +kernel
theorem dX9_proof_63 : decode cX9_proof 63 = .ok (.getfield 384, 3) := by decide +kernel
theorem dX9_proof_66 : decode cX9_proof 66 = .ok (.aload_n 0, 1) := by decide +kernel
theorem dX9_proof_67 : decode cX9_proof 67 = .ok (.getfield 387, 3) := by decide +kernel
theorem dX9_proof_70 : decode cX9_proof 70 = .ok (.invokevirtual 366, 3) := by decide +kernel
theorem dX9_proof_73 : decode cX9_proof 73 = .ok (.aload_n 0, 1) := by decide +kernel
theorem dX9_proof_74 : decode cX9_proof 74 = .ok (.invokevirtual 393, 3) := by decide +kernel
theorem dX9_proof_77 : decode cX9_proof 77 = .ok (.aload_n 0, 1) := by decide +kernel
theorem dX9_proof_78 : decode cX9_proof 78 = .ok (.invokevirtual 409, 3) := by decide +kernel
theorem dX9_proof_81 : decode cX9_proof 81 = .ok (.aload_n 0, 1) := by decide +kernel
theorem dX9_proof_82 : decode cX9_proof 82 = .ok (.getfield 390, 3) := by decide +kernel
theorem dX9_proof_85 : decode cX9_proof 85 = .ok (.ireturn, 1) := by decide +kernel
theorem dX9_step__0 : decode cX9_step_ 0 = .ok (.aload_n 0, 1) := by decide +kernel
theorem dX9_step__1 : decode cX9_step_ 1 = .ok (.getfield 396, 3) := by decide +kernel
theorem dX9_step__4 : decode cX9_step_ 4 = .ok (.ifCond .le 41, 3) := by decide +kernel
theorem dX9_step__7 : decode cX9_step_ 7 = .ok (.iload_n 1, 1) := by decide +kernel
theorem dX9_step__8 : decode cX9_step_ 8 = .ok (.iconst 0, 1) := by decide +kernel
theorem dX9_step__9 : decode cX9_step_ 9 = .ok (.aload_n 0, 1) := by decide +kernel
theorem dX9_step__10 : decode cX9_step_ 10 = .ok (.getfield 390, 3) := by decide +kernel
theorem dX9_step__13 : decode cX9_step_ 13 = .ok (.iconst 1, 1) := by decide +kernel
theorem dX9_step__14 : decode cX9_step_ 14 = .ok (.isub, 1) := by decide +kernel
theorem dX9_step__15 : decode cX9_step_ 15 = .ok (.invokestatic 311, 3) := by decide +kernel
theorem dX9_step__18 : decode cX9_step_ 18 = .ok (.ifCond .eq 27, 3) := by decide +kernel
theorem dX9_step__21 : decode cX9_step_ 21 = .ok (.iload_n 2, 1) := by decide +kernel
theorem dX9_step__22 : decode cX9_step_ 22 = .ok (.iconst 0, 1) := by decide +kernel
theorem dX9_step__23 : decode cX9_step_ 23 = .ok (.bipush 31, 2) := by decide +kernel
theorem dX9_step__25 : decode cX9_step_ 25 = .ok (.invokestatic 311, 3) := by decide +kernel
theorem dX9_step__28 : decode cX9_step_ 28 = .ok (.ifCond .eq 17, 3) := by decide +kernel
theorem dX9_step__31 : decode cX9_step_ 31 = .ok (.aload_n 0, 1) := by decide +kernel
theorem dX9_step__32 : decode cX9_step_ 32 = .ok (.getfield 199, 3) := by decide +kernel
theorem dX9_step__35 : decode cX9_step_ 35 = .ok (.bipush 32, 2) := by decide +kernel
theorem dX9_step__37 : decode cX9_step_ 37 = .ok (.iload_n 1, 1) := by decide +kernel
theorem dX9_step__38 : decode cX9_step_ 38 = .ok (.imul, 1) := by decide +kernel
theorem dX9_step__39 : decode cX9_step_ 39 = .ok (.iload_n 2, 1) := by decide +kernel
theorem dX9_step__40 : decode cX9_step_ 40 = .ok (.iadd, 1) := by decide +kernel
theorem dX9_step__41 : decode cX9_step_ 41 = .ok (.iaload, 1) := by decide +kernel
theorem dX9_step__42 : decode cX9_step_ 42 = .ok (.goto 4, 3) := by decide +kernel
theorem dX9_step__45 : decode cX9_step_ 45 = .ok (.iconst (-1), 1) := by decide +kernel
theorem dX9_step__46 : decode cX9_step_ 46 = .ok (.ireturn, 1) := by decide +kernel
theorem dX9_beside_0 : decode cX9_beside 0 = .ok (.aload_n 0, 1) := by decide +kernel
theorem dX9_beside_1 : decode cX9_beside 1 = .ok (.iconst 1, 1) := by decide +kernel
theorem dX9_beside_2 : decode cX9_beside 2 = .ok (.invokevirtual 330, 3) := by decide +kernel
theorem dX9_beside_5 : decode cX9_beside 5 = .ok (.iconst 0, 1) := by decide +kernel
theorem dX9_beside_6 : decode cX9_beside 6 = .ok (.istore 4, 2) := by decide +kernel
theorem dX9_beside_8 : decode cX9_beside 8 = .ok (.iload 4, 2) := by decide +kernel
theorem dX9_beside_10 : decode cX9_beside 10 = .ok (.bipush 32, 2) := by decide +kernel
theorem dX9_beside_12 : decode cX9_beside 12 = .ok (.if_icmp .ge 36, 3) := by decide +kernel
theorem dX9_beside_15 : decode cX9_beside 15 = .ok (.aload_n 0, 1) := by decide +kernel
theorem dX9_beside_16 : decode cX9_beside 16 = .ok (.iload_n 3, 1) := by decide +kernel
theorem dX9_beside_17 : decode cX9_beside 17 = .ok (.ifCond .eq 18, 3) := by decide +kernel
theorem dX9_beside_20 : decode cX9_beside 20 = .ok (.aload_n 0, 1) := by decide +kernel
theorem dX9_beside_21 : decode cX9_beside 21 = .ok (.getfield 199, 3) := by decide +kernel
theorem dX9_beside_24 : decode cX9_beside 24 = .ok (.bipush 32, 2) := by decide +kernel
theorem dX9_beside_26 : decode cX9_beside 26 = .ok (.iload_n 2, 1) := by decide +kernel
theorem dX9_beside_27 : decode cX9_beside 27 = .ok (.imul, 1) := by decide +kernel
theorem dX9_beside_28 : decode cX9_beside 28 = .ok (.iload 4, 2) := by decide +kernel
theorem dX9_beside_30 : decode cX9_beside 30 = .ok (.iadd, 1) := by decide +kernel
theorem dX9_beside_31 : decode cX9_beside 31 = .ok (.iaload, 1) := by decide +kernel
theorem dX9_beside_32 : decode cX9_beside 32 = .ok (.goto 7, 3) := by decide +kernel
theorem dX9_beside_35 : decode cX9_beside 35 = .ok (.aload_n 1, 1) := by decide +kernel
theorem dX9_beside_36 : decode cX9_beside 36 = .ok (.iload 4, 2) := by decide +kernel
theorem dX9_beside_38 : decode cX9_beside 38 = .ok (.iaload, 1) := by decide +kernel
theorem dX9_beside_39 : decode cX9_beside 39 = .ok (.invokevirtual 330, 3) := by decide +kernel
theorem dX9_beside_42 : decode cX9_beside 42 = .ok (.iinc 4 1, 3) := by decide +kernel
theorem dX9_beside_45 : decode cX9_beside 45 = .ok (.goto (-37), 3) := by decide +kernel
theorem dX9_beside_48 : decode cX9_beside 48 = .ok (.iconst 0, 1) := by decide +kernel
theorem dX9_beside_49 : decode cX9_beside 49 = .ok (.istore 4, 2) := by decide +kernel
theorem dX9_beside_51 : decode cX9_beside 51 = .ok (.iload 4, 2) := by decide +kernel
theorem dX9_beside_53 : decode cX9_beside 53 = .ok (.bipush 32, 2) := by decide +kernel
theorem dX9_beside_55 : decode cX9_beside 55 = .ok (.if_icmp .ge 36, 3) := by decide +kernel
theorem dX9_beside_58 : decode cX9_beside 58 = .ok (.aload_n 0, 1) := by decide +kernel
theorem dX9_beside_59 : decode cX9_beside 59 = .ok (.iload_n 3, 1) := by decide +kernel
theorem dX9_beside_60 : decode cX9_beside 60 = .ok (.ifCond .eq 10, 3) := by decide +kernel
theorem dX9_beside_63 : decode cX9_beside 63 = .ok (.aload_n 1, 1) := by decide +kernel
theorem dX9_beside_64 : decode cX9_beside 64 = .ok (.iload 4, 2) := by decide +kernel
theorem dX9_beside_66 : decode cX9_beside 66 = .ok (.iaload, 1) := by decide +kernel
theorem dX9_beside_67 : decode cX9_beside 67 = .ok (.goto 15, 3) := by decide +kernel
theorem dX9_beside_70 : decode cX9_beside 70 = .ok (.aload_n 0, 1) := by decide +kernel
theorem dX9_beside_71 : decode cX9_beside 71 = .ok (.getfield 199, 3) := by decide +kernel
theorem dX9_beside_74 : decode cX9_beside 74 = .ok (.bipush 32, 2) := by decide +kernel
theorem dX9_beside_76 : decode cX9_beside 76 = .ok (.iload_n 2, 1) := by decide +kernel
theorem dX9_beside_77 : decode cX9_beside 77 = .ok (.imul, 1) := by decide +kernel
theorem dX9_beside_78 : decode cX9_beside 78 = .ok (.iload 4, 2) := by decide +kernel
theorem dX9_beside_80 : decode cX9_beside 80 = .ok (.iadd, 1) := by decide +kernel
theorem dX9_beside_81 : decode cX9_beside 81 = .ok (.iaload, 1) := by decide +kernel
theorem dX9_beside_82 : decode cX9_beside 82 = .ok (.invokevirtual 330, 3) := by decide +kernel
theorem dX9_beside_85 : decode cX9_beside 85 = .ok (.iinc 4 1, 3) := by decide +kernel
theorem dX9_beside_88 : decode cX9_beside 88 = .ok (.goto (-37), 3) := by decide +kernel
theorem dX9_beside_91 : decode cX9_beside 91 = .ok (.aload_n 0, 1) := by decide +kernel
theorem dX9_beside_92 : decode cX9_beside 92 = .ok (.invokevirtual 351, 3) := by decide +kernel
theorem dX9_beside_95 : decode cX9_beside 95 = .ok (.iconst 0, 1) := by decide +kernel
theorem dX9_beside_96 : decode cX9_beside 96 = .ok (.istore 4, 2) := by decide +kernel
theorem dX9_beside_98 : decode cX9_beside 98 = .ok (.iload 4, 2) := by decide +kernel
theorem dX9_beside_100 : decode cX9_beside 100 = .ok (.bipush 32, 2) := by decide +kernel
theorem dX9_beside_102 : decode cX9_beside 102 = .ok (.if_icmp .ge 20, 3) := by decide +kernel
theorem dX9_beside_105 : decode cX9_beside 105 = .ok (.aload_n 1, 1) := by decide +kernel
theorem dX9_beside_106 : decode cX9_beside 106 = .ok (.iload 4, 2) := by decide +kernel
theorem dX9_beside_108 : decode cX9_beside 108 = .ok (.aload_n 0, 1) := by decide +kernel
theorem dX9_beside_109 : decode cX9_beside 109 = .ok (.getfield 178, 3) := by decide +kernel
theorem dX9_beside_112 : decode cX9_beside 112 = .ok (.iload 4, 2) := by decide +kernel
theorem dX9_beside_114 : decode cX9_beside 114 = .ok (.iaload, 1) := by decide +kernel
theorem dX9_beside_115 : decode cX9_beside 115 = .ok (.iastore, 1) := by decide +kernel
theorem dX9_beside_116 : decode cX9_beside 116 = .ok (.iinc 4 1, 3) := by decide +kernel
theorem dX9_beside_119 : decode cX9_beside 119 = .ok (.goto (-21), 3) := by decide +kernel
theorem dX9_beside_122 : decode cX9_beside 122 = .ok (.return_, 1) := by decide +kernel
theorem dX9_isHead_0 : decode cX9_isHead 0 = .ok (.iconst 1, 1) := by decide +kernel
theorem dX9_isHead_1 : decode cX9_isHead 1 = .ok (.istore_n 3, 1) := by decide +kernel
theorem dX9_isHead_2 : decode cX9_isHead 2 = .ok (.iconst 0, 1) := by decide +kernel
theorem dX9_isHead_3 : decode cX9_isHead 3 = .ok (.istore 4, 2) := by decide +kernel
theorem dX9_isHead_5 : decode cX9_isHead 5 = .ok (.iload 4, 2) := by decide +kernel
theorem dX9_isHead_7 : decode cX9_isHead 7 = .ok (.bipush 32, 2) := by decide +kernel
theorem dX9_isHead_9 : decode cX9_isHead 9 = .ok (.if_icmp .ge 38, 3) := by decide +kernel
theorem dX9_isHead_12 : decode cX9_isHead 12 = .ok (.iload_n 3, 1) := by decide +kernel
theorem dX9_isHead_13 : decode cX9_isHead 13 = .ok (.ifCond .eq 26, 3) := by decide +kernel
theorem dX9_isHead_16 : decode cX9_isHead 16 = .ok (.aload_n 1, 1) := by decide +kernel
theorem dX9_isHead_17 : decode cX9_isHead 17 = .ok (.iload 4, 2) := by decide +kernel
theorem dX9_isHead_19 : decode cX9_isHead 19 = .ok (.iaload, 1) := by decide +kernel
theorem dX9_isHead_20 : decode cX9_isHead 20 = .ok (.aload_n 0, 1) := by decide +kernel
theorem dX9_isHead_21 : decode cX9_isHead 21 = .ok (.getfield 196, 3) := by decide +kernel
theorem dX9_isHead_24 : decode cX9_isHead 24 = .ok (.bipush 32, 2) := by decide +kernel
theorem dX9_isHead_26 : decode cX9_isHead 26 = .ok (.iload_n 2, 1) := by decide +kernel
theorem dX9_isHead_27 : decode cX9_isHead 27 = .ok (.imul, 1) := by decide +kernel
theorem dX9_isHead_28 : decode cX9_isHead 28 = .ok (.iload 4, 2) := by decide +kernel
theorem dX9_isHead_30 : decode cX9_isHead 30 = .ok (.iadd, 1) := by decide +kernel
theorem dX9_isHead_31 : decode cX9_isHead 31 = .ok (.iaload, 1) := by decide +kernel
theorem dX9_isHead_32 : decode cX9_isHead 32 = .ok (.if_icmp .ne 7, 3) := by decide +kernel
theorem dX9_isHead_35 : decode cX9_isHead 35 = .ok (.iconst 1, 1) := by decide +kernel
theorem dX9_isHead_36 : decode cX9_isHead 36 = .ok (.goto 4, 3) := by decide +kernel
theorem dX9_isHead_39 : decode cX9_isHead 39 = .ok (.iconst 0, 1) := by decide +kernel
theorem dX9_isHead_40 : decode cX9_isHead 40 = .ok (.istore_n 3, 1) := by decide +kernel
theorem dX9_isHead_41 : decode cX9_isHead 41 = .ok (.iinc 4 1, 3) := by decide +kernel
theorem dX9_isHead_44 : decode cX9_isHead 44 = .ok (.goto (-39), 3) := by decide +kernel
theorem dX9_isHead_47 : decode cX9_isHead 47 = .ok (.iload_n 3, 1) := by decide +kernel
theorem dX9_isHead_48 : decode cX9_isHead 48 = .ok (.ireturn, 1) := by decide +kernel
theorem dX9_isHeadOf_0 : decode cX9_isHeadOf 0 = .ok (.iload_n 1, 1) := by decide +kernel
theorem dX9_isHeadOf_1 : decode cX9_isHeadOf 1 = .ok (.iconst 0, 1) := by decide +kernel
theorem dX9_isHeadOf_2 : decode cX9_isHeadOf 2 = .ok (.bipush 7, 2) := by decide +kernel
theorem dX9_isHeadOf_4 : decode cX9_isHeadOf 4 = .ok (.invokestatic 311, 3) := by decide +kernel
theorem dX9_isHeadOf_7 : decode cX9_isHeadOf 7 = .ok (.ifCond .eq 26, 3) := by decide +kernel
theorem dX9_isHeadOf_10 : decode cX9_isHeadOf 10 = .ok (.aload_n 0, 1) := by decide +kernel
theorem dX9_isHeadOf_11 : decode cX9_isHeadOf 11 = .ok (.getfield 190, 3) := by decide +kernel
theorem dX9_isHeadOf_14 : decode cX9_isHeadOf 14 = .ok (.iload_n 1, 1) := by decide +kernel
theorem dX9_isHeadOf_15 : decode cX9_isHeadOf 15 = .ok (.baload, 1) := by decide +kernel
theorem dX9_isHeadOf_16 : decode cX9_isHeadOf 16 = .ok (.ifCond .eq 17, 3) := by decide +kernel
theorem dX9_isHeadOf_19 : decode cX9_isHeadOf 19 = .ok (.aload_n 0, 1) := by decide +kernel
theorem dX9_isHeadOf_20 : decode cX9_isHeadOf 20 = .ok (.getfield 187, 3) := by decide +kernel
theorem dX9_isHeadOf_23 : decode cX9_isHeadOf 23 = .ok (.iload_n 1, 1) := by decide +kernel
theorem dX9_isHeadOf_24 : decode cX9_isHeadOf 24 = .ok (.iaload, 1) := by decide +kernel
theorem dX9_isHeadOf_25 : decode cX9_isHeadOf 25 = .ok (.iload_n 2, 1) := by decide +kernel
theorem dX9_isHeadOf_26 : decode cX9_isHeadOf 26 = .ok (.if_icmp .ne 7, 3) := by decide +kernel
theorem dX9_isHeadOf_29 : decode cX9_isHeadOf 29 = .ok (.iconst 1, 1) := by decide +kernel
theorem dX9_isHeadOf_30 : decode cX9_isHeadOf 30 = .ok (.goto 4, 3) := by decide +kernel
theorem dX9_isHeadOf_33 : decode cX9_isHeadOf 33 = .ok (.iconst 0, 1) := by decide +kernel
theorem dX9_isHeadOf_34 : decode cX9_isHeadOf 34 = .ok (.ireturn, 1) := by decide +kernel
theorem dX9_leads_0 : decode cX9_leads 0 = .ok (.aload_n 0, 1) := by decide +kernel
theorem dX9_leads_1 : decode cX9_leads 1 = .ok (.getfield 396, 3) := by decide +kernel
theorem dX9_leads_4 : decode cX9_leads 4 = .ok (.ifCond .eq 35, 3) := by decide +kernel
theorem dX9_leads_7 : decode cX9_leads 7 = .ok (.aload_n 0, 1) := by decide +kernel
theorem dX9_leads_8 : decode cX9_leads 8 = .ok (.iload_n 2, 1) := by decide +kernel
theorem dX9_leads_9 : decode cX9_leads 9 = .ok (.aload_n 0, 1) := by decide +kernel
theorem dX9_leads_10 : decode cX9_leads 10 = .ok (.getfield 402, 3) := by decide +kernel
theorem dX9_leads_13 : decode cX9_leads 13 = .ok (.invokevirtual 412, 3) := by decide +kernel
theorem dX9_leads_16 : decode cX9_leads 16 = .ok (.ifCond .eq 23, 3) := by decide +kernel
theorem dX9_leads_19 : decode cX9_leads 19 = .ok (.aload_n 0, 1) := by decide +kernel
theorem dX9_leads_20 : decode cX9_leads 20 = .ok (.getfield 396, 3) := by decide +kernel
theorem dX9_leads_23 : decode cX9_leads 23 = .ok (.iconst 2, 1) := by decide +kernel
theorem dX9_leads_24 : decode cX9_leads 24 = .ok (.if_icmp .ne 17, 3) := by decide +kernel
theorem dX9_leads_27 : decode cX9_leads 27 = .ok (.aload_n 0, 1) := by decide +kernel
theorem dX9_leads_28 : decode cX9_leads 28 = .ok (.iload_n 1, 1) := by decide +kernel
theorem dX9_leads_29 : decode cX9_leads 29 = .ok (.aload_n 0, 1) := by decide +kernel
theorem dX9_leads_30 : decode cX9_leads 30 = .ok (.getfield 399, 3) := by decide +kernel
theorem dX9_leads_33 : decode cX9_leads 33 = .ok (.invokevirtual 412, 3) := by decide +kernel
theorem dX9_leads_36 : decode cX9_leads 36 = .ok (.ifCond .ne 5, 3) := by decide +kernel
theorem dX9_leads_39 : decode cX9_leads 39 = .ok (.iconst (-1), 1) := by decide +kernel
theorem dX9_leads_40 : decode cX9_leads 40 = .ok (.ireturn, 1) := by decide +kernel
theorem dX9_leads_41 : decode cX9_leads 41 = .ok (.aload_n 0, 1) := by decide +kernel
theorem dX9_leads_42 : decode cX9_leads 42 = .ok (.aload_n 0, 1) := by decide +kernel
theorem dX9_leads_43 : decode cX9_leads 43 = .ok (.getfield 399, 3) := by decide +kernel
theorem dX9_leads_46 : decode cX9_leads 46 = .ok (.aload_n 0, 1) := by decide +kernel
theorem dX9_leads_47 : decode cX9_leads 47 = .ok (.getfield 402, 3) := by decide +kernel
theorem dX9_leads_50 : decode cX9_leads 50 = .ok (.aload_n 0, 1) := by decide +kernel
theorem dX9_leads_51 : decode cX9_leads 51 = .ok (.getfield 396, 3) := by decide +kernel
theorem dX9_leads_54 : decode cX9_leads 54 = .ok (.iconst 1, 1) := by decide +kernel
theorem dX9_leads_55 : decode cX9_leads 55 = .ok (.if_icmp .ne 7, 3) := by decide +kernel
theorem dX9_leads_58 : decode cX9_leads 58 = .ok (.iconst 1, 1) := by decide +kernel
theorem dX9_leads_59 : decode cX9_leads 59 = .ok (.goto 4, 3) := by decide +kernel
theorem dX9_leads_62 : decode cX9_leads 62 = .ok (.iconst 0, 1) := by decide +kernel
theorem dX9_leads_63 : decode cX9_leads 63 = .ok (.invokevirtual 405, 3) := by decide +kernel
theorem dX9_leads_66 : decode cX9_leads 66 = .ok (.iconst 0, 1) := by decide +kernel
theorem dX9_leads_67 : decode cX9_leads 67 = .ok (.istore_n 3, 1) := by decide +kernel
theorem dX9_leads_68 : decode cX9_leads 68 = .ok (.aload_n 0, 1) := by decide +kernel
theorem dX9_leads_69 : decode cX9_leads 69 = .ok (.getfield 396, 3) := by decide +kernel
theorem dX9_leads_72 : decode cX9_leads 72 = .ok (.iconst 1, 1) := by decide +kernel
theorem dX9_leads_73 : decode cX9_leads 73 = .ok (.if_icmp .ne 44, 3) := by decide +kernel
theorem dX9_leads_76 : decode cX9_leads 76 = .ok (.aload_n 0, 1) := by decide +kernel
theorem dX9_leads_77 : decode cX9_leads 77 = .ok (.aload_n 0, 1) := by decide +kernel
theorem dX9_leads_78 : decode cX9_leads 78 = .ok (.getfield 399, 3) := by decide +kernel
theorem dX9_leads_81 : decode cX9_leads 81 = .ok (.invokevirtual 354, 3) := by decide +kernel
theorem dX9_leads_84 : decode cX9_leads 84 = .ok (.iconst 0, 1) := by decide +kernel
theorem dX9_leads_85 : decode cX9_leads 85 = .ok (.istore 4, 2) := by decide +kernel
theorem dX9_leads_87 : decode cX9_leads 87 = .ok (.iload 4, 2) := by decide +kernel
theorem dX9_leads_89 : decode cX9_leads 89 = .ok (.bipush 32, 2) := by decide +kernel
theorem dX9_leads_91 : decode cX9_leads 91 = .ok (.if_icmp .ge 23, 3) := by decide +kernel
theorem dX9_leads_94 : decode cX9_leads 94 = .ok (.aload_n 0, 1) := by decide +kernel
theorem dX9_leads_95 : decode cX9_leads 95 = .ok (.getfield 214, 3) := by decide +kernel
theorem dX9_leads_98 : decode cX9_leads 98 = .ok (.iload 4, 2) := by decide +kernel
theorem dX9_leads_100 : decode cX9_leads 100 = .ok (.aload_n 0, 1) := by decide +kernel
theorem dX9_leads_101 : decode cX9_leads 101 = .ok (.getfield 178, 3) := by decide +kernel
theorem dX9_leads_104 : decode cX9_leads 104 = .ok (.iload 4, 2) := by decide +kernel
theorem dX9_leads_106 : decode cX9_leads 106 = .ok (.iaload, 1) := by decide +kernel
theorem dX9_leads_107 : decode cX9_leads 107 = .ok (.iastore, 1) := by decide +kernel
theorem dX9_leads_108 : decode cX9_leads 108 = .ok (.iinc 4 1, 3) := by decide +kernel
theorem dX9_leads_111 : decode cX9_leads 111 = .ok (.goto (-24), 3) := by decide +kernel
theorem dX9_leads_114 : decode cX9_leads 114 = .ok (.goto 82, 3) := by decide +kernel
theorem dX9_leads_117 : decode cX9_leads 117 = .ok (.iconst 0, 1) := by decide +kernel
theorem dX9_leads_118 : decode cX9_leads 118 = .ok (.istore 4, 2) := by decide +kernel
theorem dX9_leads_120 : decode cX9_leads 120 = .ok (.iload 4, 2) := by decide +kernel
theorem dX9_leads_122 : decode cX9_leads 122 = .ok (.bipush 32, 2) := by decide +kernel
theorem dX9_leads_124 : decode cX9_leads 124 = .ok (.if_icmp .ge 59, 3) := by decide +kernel
theorem dX9_leads_127 : decode cX9_leads 127 = .ok (.aload_n 0, 1) := by decide +kernel
theorem dX9_leads_128 : decode cX9_leads 128 = .ok (.getfield 211, 3) := by decide +kernel
theorem dX9_leads_131 : decode cX9_leads 131 = .ok (.iload 4, 2) := by decide +kernel
theorem dX9_leads_133 : decode cX9_leads 133 = .ok (.aload_n 0, 1) := by decide +kernel
theorem dX9_leads_134 : decode cX9_leads 134 = .ok (.getfield 374, 3) := by decide +kernel
theorem dX9_leads_137 : decode cX9_leads 137 = .ok (.ifCond .eq 18, 3) := by decide +kernel
theorem dX9_leads_140 : decode cX9_leads 140 = .ok (.aload_n 0, 1) := by decide +kernel
theorem dX9_leads_141 : decode cX9_leads 141 = .ok (.getfield 196, 3) := by decide +kernel
theorem dX9_leads_144 : decode cX9_leads 144 = .ok (.bipush 32, 2) := by decide +kernel
theorem dX9_leads_146 : decode cX9_leads 146 = .ok (.iload_n 1, 1) := by decide +kernel
theorem dX9_leads_147 : decode cX9_leads 147 = .ok (.imul, 1) := by decide +kernel
theorem dX9_leads_148 : decode cX9_leads 148 = .ok (.iload 4, 2) := by decide +kernel
theorem dX9_leads_150 : decode cX9_leads 150 = .ok (.iadd, 1) := by decide +kernel
theorem dX9_leads_151 : decode cX9_leads 151 = .ok (.iaload, 1) := by decide +kernel
theorem dX9_leads_152 : decode cX9_leads 152 = .ok (.goto 10, 3) := by decide +kernel
theorem dX9_leads_155 : decode cX9_leads 155 = .ok (.aload_n 0, 1) := by decide +kernel
theorem dX9_leads_156 : decode cX9_leads 156 = .ok (.getfield 199, 3) := by decide +kernel
theorem dX9_leads_159 : decode cX9_leads 159 = .ok (.iload 4, 2) := by decide +kernel
theorem dX9_leads_161 : decode cX9_leads 161 = .ok (.iaload, 1) := by decide +kernel
theorem dX9_leads_162 : decode cX9_leads 162 = .ok (.iastore, 1) := by decide +kernel
theorem dX9_leads_163 : decode cX9_leads 163 = .ok (.aload_n 0, 1) := by decide +kernel
theorem dX9_leads_164 : decode cX9_leads 164 = .ok (.getfield 214, 3) := by decide +kernel
theorem dX9_leads_167 : decode cX9_leads 167 = .ok (.iload 4, 2) := by decide +kernel
theorem dX9_leads_169 : decode cX9_leads 169 = .ok (.aload_n 0, 1) := by decide +kernel
theorem dX9_leads_170 : decode cX9_leads 170 = .ok (.getfield 211, 3) := by decide +kernel
theorem dX9_leads_173 : decode cX9_leads 173 = .ok (.iload 4, 2) := by decide +kernel
theorem dX9_leads_175 : decode cX9_leads 175 = .ok (.iaload, 1) := by decide +kernel
theorem dX9_leads_176 : decode cX9_leads 176 = .ok (.iastore, 1) := by decide +kernel
theorem dX9_leads_177 : decode cX9_leads 177 = .ok (.iinc 4 1, 3) := by decide +kernel
theorem dX9_leads_180 : decode cX9_leads 180 = .ok (.goto (-60), 3) := by decide +kernel
theorem dX9_leads_183 : decode cX9_leads 183 = .ok (.aload_n 0, 1) := by decide +kernel
theorem dX9_leads_184 : decode cX9_leads 184 = .ok (.getfield 374, 3) := by decide +kernel
theorem dX9_leads_187 : decode cX9_leads 187 = .ok (.ifCond .eq 7, 3) := by decide +kernel
theorem dX9_leads_190 : decode cX9_leads 190 = .ok (.iconst 0, 1) := by decide +kernel
theorem dX9_leads_191 : decode cX9_leads 191 = .ok (.goto 4, 3) := by decide +kernel
theorem dX9_leads_194 : decode cX9_leads 194 = .ok (.iconst 1, 1) := by decide +kernel
theorem dX9_leads_195 : decode cX9_leads 195 = .ok (.istore_n 3, 1) := by decide +kernel
theorem dX9_leads_196 : decode cX9_leads 196 = .ok (.aload_n 0, 1) := by decide +kernel
theorem dX9_leads_197 : decode cX9_leads 197 = .ok (.getfield 378, 3) := by decide +kernel
theorem dX9_leads_200 : decode cX9_leads 200 = .ok (.iconst 1, 1) := by decide +kernel
theorem dX9_leads_201 : decode cX9_leads 201 = .ok (.isub, 1) := by decide +kernel
theorem dX9_leads_202 : decode cX9_leads 202 = .ok (.istore 4, 2) := by decide +kernel
theorem dX9_leads_204 : decode cX9_leads 204 = .ok (.iload 4, 2) := by decide +kernel
theorem dX9_leads_206 : decode cX9_leads 206 = .ok (.ifCond .lt 56, 3) := by decide +kernel
theorem dX9_leads_209 : decode cX9_leads 209 = .ok (.aload_n 0, 1) := by decide +kernel
theorem dX9_leads_210 : decode cX9_leads 210 = .ok (.getfield 396, 3) := by decide +kernel
theorem dX9_leads_213 : decode cX9_leads 213 = .ok (.iconst 2, 1) := by decide +kernel
theorem dX9_leads_214 : decode cX9_leads 214 = .ok (.if_icmp .ne 23, 3) := by decide +kernel
theorem dX9_leads_217 : decode cX9_leads 217 = .ok (.aload_n 0, 1) := by decide +kernel
theorem dX9_leads_218 : decode cX9_leads 218 = .ok (.getfield 202, 3) := by decide +kernel
theorem dX9_leads_221 : decode cX9_leads 221 = .ok (.iload 4, 2) := by decide +kernel
theorem dX9_leads_223 : decode cX9_leads 223 = .ok (.baload, 1) := by decide +kernel
theorem dX9_leads_224 : decode cX9_leads 224 = .ok (.ifCond .eq 13, 3) := by decide +kernel
theorem dX9_leads_227 : decode cX9_leads 227 = .ok (.aload_n 0, 1) := by decide +kernel
theorem dX9_leads_228 : decode cX9_leads 228 = .ok (.aload_n 0, 1) := by decide +kernel
theorem dX9_leads_229 : decode cX9_leads 229 = .ok (.getfield 211, 3) := by decide +kernel
theorem dX9_leads_232 : decode cX9_leads 232 = .ok (.iload_n 3, 1) := by decide +kernel
theorem dX9_leads_233 : decode cX9_leads 233 = .ok (.iconst 1, 1) := by decide +kernel
theorem dX9_leads_234 : decode cX9_leads 234 = .ok (.invokevirtual 415, 3) := by decide +kernel
theorem dX9_leads_237 : decode cX9_leads 237 = .ok (.aload_n 0, 1) := by decide +kernel
theorem dX9_leads_238 : decode cX9_leads 238 = .ok (.aload_n 0, 1) := by decide +kernel
theorem dX9_leads_239 : decode cX9_leads 239 = .ok (.getfield 214, 3) := by decide +kernel
theorem dX9_leads_242 : decode cX9_leads 242 = .ok (.iload_n 3, 1) := by decide +kernel
theorem dX9_leads_243 : decode cX9_leads 243 = .ok (.aload_n 0, 1) := by decide +kernel
theorem dX9_leads_244 : decode cX9_leads 244 = .ok (.getfield 202, 3) := by decide +kernel
theorem dX9_leads_247 : decode cX9_leads 247 = .ok (.iload 4, 2) := by decide +kernel
theorem dX9_leads_249 : decode cX9_leads 249 = .ok (.baload, 1) := by decide +kernel
theorem dX9_leads_250 : decode cX9_leads 250 = .ok (.invokevirtual 415, 3) := by decide +kernel
theorem dX9_leads_253 : decode cX9_leads 253 = .ok (.iinc 3 1, 3) := by decide +kernel
theorem dX9_leads_256 : decode cX9_leads 256 = .ok (.iinc 4 (-1), 3) := by decide +kernel
theorem dX9_leads_259 : decode cX9_leads 259 = .ok (.goto (-55), 3) := by decide +kernel
theorem dX9_leads_262 : decode cX9_leads 262 = .ok (.aload_n 0, 1) := by decide +kernel
theorem dX9_leads_263 : decode cX9_leads 263 = .ok (.aload_n 0, 1) := by decide +kernel
theorem dX9_leads_264 : decode cX9_leads 264 = .ok (.getfield 214, 3) := by decide +kernel
theorem dX9_leads_267 : decode cX9_leads 267 = .ok (.iload_n 2, 1) := by decide +kernel
theorem dX9_leads_268 : decode cX9_leads 268 = .ok (.invokevirtual 419, 3) := by decide +kernel
theorem dX9_leads_271 : decode cX9_leads 271 = .ok (.ifCond .eq 27, 3) := by decide +kernel
theorem dX9_leads_274 : decode cX9_leads 274 = .ok (.aload_n 0, 1) := by decide +kernel
theorem dX9_leads_275 : decode cX9_leads 275 = .ok (.getfield 396, 3) := by decide +kernel
theorem dX9_leads_278 : decode cX9_leads 278 = .ok (.iconst 1, 1) := by decide +kernel
theorem dX9_leads_279 : decode cX9_leads 279 = .ok (.if_icmp .eq 15, 3) := by decide +kernel
theorem dX9_leads_282 : decode cX9_leads 282 = .ok (.aload_n 0, 1) := by decide +kernel
theorem dX9_leads_283 : decode cX9_leads 283 = .ok (.aload_n 0, 1) := by decide +kernel
theorem dX9_leads_284 : decode cX9_leads 284 = .ok (.getfield 211, 3) := by decide +kernel
theorem dX9_leads_287 : decode cX9_leads 287 = .ok (.iload_n 1, 1) := by decide +kernel
theorem dX9_leads_288 : decode cX9_leads 288 = .ok (.invokevirtual 419, 3) := by decide +kernel
theorem dX9_leads_291 : decode cX9_leads 291 = .ok (.ifCond .eq 7, 3) := by decide +kernel
theorem dX9_leads_294 : decode cX9_leads 294 = .ok (.iconst 1, 1) := by decide +kernel
theorem dX9_leads_295 : decode cX9_leads 295 = .ok (.goto 4, 3) := by decide +kernel
theorem dX9_leads_298 : decode cX9_leads 298 = .ok (.iconst 0, 1) := by decide +kernel
theorem dX9_leads_299 : decode cX9_leads 299 = .ok (.ireturn, 1) := by decide +kernel
theorem dX9_number_0 : decode cX9_number 0 = .ok (.lconst 0, 1) := by decide +kernel
theorem dX9_number_1 : decode cX9_number 1 = .ok (.lstore_n 2, 1) := by decide +kernel
theorem dX9_number_2 : decode cX9_number 2 = .ok (.iconst 0, 1) := by decide +kernel
theorem dX9_number_3 : decode cX9_number 3 = .ok (.istore 4, 2) := by decide +kernel
theorem dX9_number_5 : decode cX9_number 5 = .ok (.iload 4, 2) := by decide +kernel
theorem dX9_number_7 : decode cX9_number 7 = .ok (.iload_n 1, 1) := by decide +kernel
theorem dX9_number_8 : decode cX9_number 8 = .ok (.if_icmp .ge 35, 3) := by decide +kernel
theorem dX9_number_11 : decode cX9_number 11 = .ok (.lload_n 2, 1) := by decide +kernel
theorem dX9_number_12 : decode cX9_number 12 = .ok (.bipush 8, 2) := by decide +kernel
theorem dX9_number_14 : decode cX9_number 14 = .ok (.lshl, 1) := by decide +kernel
theorem dX9_number_15 : decode cX9_number 15 = .ok (.aload_n 0, 1) := by decide +kernel
theorem dX9_number_16 : decode cX9_number 16 = .ok (.getfield 66, 3) := by decide +kernel
theorem dX9_number_19 : decode cX9_number 19 = .ok (.aload_n 0, 1) := by decide +kernel
theorem dX9_number_20 : decode cX9_number 20 = .ok (.getfield 422, 3) := by decide +kernel
theorem dX9_number_23 : decode cX9_number 23 = .ok (.iaload, 1) := by decide +kernel
theorem dX9_number_24 : decode cX9_number 24 = .ok (.i2l, 1) := by decide +kernel
theorem dX9_number_25 : decode cX9_number 25 = .ok (.lor, 1) := by decide +kernel
theorem dX9_number_26 : decode cX9_number 26 = .ok (.lstore_n 2, 1) := by decide +kernel
theorem dX9_number_27 : decode cX9_number 27 = .ok (.aload_n 0, 1) := by decide +kernel
theorem dX9_number_28 : decode cX9_number 28 = .ok (.dup, 1) := by decide +kernel
theorem dX9_number_29 : decode cX9_number 29 = .ok (.getfield 422, 3) := by decide +kernel
theorem dX9_number_32 : decode cX9_number 32 = .ok (.iconst 1, 1) := by decide +kernel
theorem dX9_number_33 : decode cX9_number 33 = .ok (.iadd, 1) := by decide +kernel
theorem dX9_number_34 : decode cX9_number 34 = .ok (.putfield 422, 3) := by decide +kernel
theorem dX9_number_37 : decode cX9_number 37 = .ok (.iinc 4 1, 3) := by decide +kernel
theorem dX9_number_40 : decode cX9_number 40 = .ok (.goto (-35), 3) := by decide +kernel
theorem dX9_number_43 : decode cX9_number 43 = .ok (.lload_n 2, 1) := by decide +kernel
theorem dX9_number_44 : decode cX9_number 44 = .ok (.lreturn, 1) := by decide +kernel
theorem dX9_sizeOf_0 : decode cX9_sizeOf 0 = .ok (.aload_n 0, 1) := by decide +kernel
theorem dX9_sizeOf_1 : decode cX9_sizeOf 1 = .ok (.getfield 66, 3) := by decide +kernel
theorem dX9_sizeOf_4 : decode cX9_sizeOf 4 = .ok (.iload_n 1, 1) := by decide +kernel
theorem dX9_sizeOf_5 : decode cX9_sizeOf 5 = .ok (.iaload, 1) := by decide +kernel
theorem dX9_sizeOf_6 : decode cX9_sizeOf 6 = .ok (.tableswitch 92 1 7 #[42, 45, 78, 81, 83, 86, 89], 42) := by decide +kernel
theorem dX9_sizeOf_48 : decode cX9_sizeOf 48 = .ok (.bipush 9, 2) := by decide +kernel
theorem dX9_sizeOf_50 : decode cX9_sizeOf 50 = .ok (.ireturn, 1) := by decide +kernel
theorem dX9_sizeOf_51 : decode cX9_sizeOf 51 = .ok (.iload_n 1, 1) := by decide +kernel
theorem dX9_sizeOf_52 : decode cX9_sizeOf 52 = .ok (.bipush 9, 2) := by decide +kernel
theorem dX9_sizeOf_54 : decode cX9_sizeOf 54 = .ok (.iadd, 1) := by decide +kernel
theorem dX9_sizeOf_55 : decode cX9_sizeOf 55 = .ok (.aload_n 0, 1) := by decide +kernel
theorem dX9_sizeOf_56 : decode cX9_sizeOf 56 = .ok (.getfield 285, 3) := by decide +kernel
theorem dX9_sizeOf_59 : decode cX9_sizeOf 59 = .ok (.if_icmp .ge 21, 3) := by decide +kernel
theorem dX9_sizeOf_62 : decode cX9_sizeOf 62 = .ok (.bipush 10, 2) := by decide +kernel
theorem dX9_sizeOf_64 : decode cX9_sizeOf 64 = .ok (.bipush 9, 2) := by decide +kernel
theorem dX9_sizeOf_66 : decode cX9_sizeOf 66 = .ok (.aload_n 0, 1) := by decide +kernel
theorem dX9_sizeOf_67 : decode cX9_sizeOf 67 = .ok (.getfield 66, 3) := by decide +kernel
theorem dX9_sizeOf_70 : decode cX9_sizeOf 70 = .ok (.iload_n 1, 1) := by decide +kernel
theorem dX9_sizeOf_71 : decode cX9_sizeOf 71 = .ok (.bipush 9, 2) := by decide +kernel
theorem dX9_sizeOf_73 : decode cX9_sizeOf 73 = .ok (.iadd, 1) := by decide +kernel
theorem dX9_sizeOf_74 : decode cX9_sizeOf 74 = .ok (.iaload, 1) := by decide +kernel
theorem dX9_sizeOf_75 : decode cX9_sizeOf 75 = .ok (.imul, 1) := by decide +kernel
theorem dX9_sizeOf_76 : decode cX9_sizeOf 76 = .ok (.iadd, 1) := by decide +kernel
theorem dX9_sizeOf_77 : decode cX9_sizeOf 77 = .ok (.goto 6, 3) := by decide +kernel
theorem dX9_sizeOf_80 : decode cX9_sizeOf 80 = .ok (.sipush 17000, 3) := by decide +kernel
theorem dX9_sizeOf_83 : decode cX9_sizeOf 83 = .ok (.ireturn, 1) := by decide +kernel
theorem dX9_sizeOf_84 : decode cX9_sizeOf 84 = .ok (.bipush 18, 2) := by decide +kernel
theorem dX9_sizeOf_86 : decode cX9_sizeOf 86 = .ok (.ireturn, 1) := by decide +kernel
theorem dX9_sizeOf_87 : decode cX9_sizeOf 87 = .ok (.iconst 3, 1) := by decide +kernel
theorem dX9_sizeOf_88 : decode cX9_sizeOf 88 = .ok (.ireturn, 1) := by decide +kernel
theorem dX9_sizeOf_89 : decode cX9_sizeOf 89 = .ok (.bipush 20, 2) := by decide +kernel
theorem dX9_sizeOf_91 : decode cX9_sizeOf 91 = .ok (.ireturn, 1) := by decide +kernel
theorem dX9_sizeOf_92 : decode cX9_sizeOf 92 = .ok (.bipush 11, 2) := by decide +kernel
theorem dX9_sizeOf_94 : decode cX9_sizeOf 94 = .ok (.ireturn, 1) := by decide +kernel
theorem dX9_sizeOf_95 : decode cX9_sizeOf 95 = .ok (.bipush 18, 2) := by decide +kernel
theorem dX9_sizeOf_97 : decode cX9_sizeOf 97 = .ok (.ireturn, 1) := by decide +kernel
theorem dX9_sizeOf_98 : decode cX9_sizeOf 98 = .ok (.sipush 17000, 3) := by decide +kernel
theorem dX9_sizeOf_101 : decode cX9_sizeOf 101 = .ok (.ireturn, 1) := by decide +kernel
theorem dX9_reads_0 : decode cX9_reads 0 = .ok (.aload_n 0, 1) := by decide +kernel
theorem dX9_reads_1 : decode cX9_reads 1 = .ok (.getfield 66, 3) := by decide +kernel
theorem dX9_reads_4 : decode cX9_reads 4 = .ok (.aload_n 0, 1) := by decide +kernel
theorem dX9_reads_5 : decode cX9_reads 5 = .ok (.getfield 422, 3) := by decide +kernel
theorem dX9_reads_8 : decode cX9_reads 8 = .ok (.iaload, 1) := by decide +kernel
theorem dX9_reads_9 : decode cX9_reads 9 = .ok (.istore_n 1, 1) := by decide +kernel
theorem dX9_reads_10 : decode cX9_reads 10 = .ok (.aload_n 0, 1) := by decide +kernel
theorem dX9_reads_11 : decode cX9_reads 11 = .ok (.dup, 1) := by decide +kernel
theorem dX9_reads_12 : decode cX9_reads 12 = .ok (.getfield 422, 3) := by decide +kernel
theorem dX9_reads_15 : decode cX9_reads 15 = .ok (.iconst 1, 1) := by decide +kernel
theorem dX9_reads_16 : decode cX9_reads 16 = .ok (.iadd, 1) := by decide +kernel
theorem dX9_reads_17 : decode cX9_reads 17 = .ok (.putfield 422, 3) := by decide +kernel
theorem dX9_reads_20 : decode cX9_reads 20 = .ok (.iload_n 1, 1) := by decide +kernel
theorem dX9_reads_21 : decode cX9_reads 21 = .ok (.iconst 2, 1) := by decide +kernel
theorem dX9_reads_22 : decode cX9_reads 22 = .ok (.if_icmp .eq 19, 3) := by decide +kernel
theorem dX9_reads_25 : decode cX9_reads 25 = .ok (.iload_n 1, 1) := by decide +kernel
theorem dX9_reads_26 : decode cX9_reads 26 = .ok (.iconst 3, 1) := by decide +kernel
theorem dX9_reads_27 : decode cX9_reads 27 = .ok (.if_icmp .eq 14, 3) := by decide +kernel
theorem dX9_reads_30 : decode cX9_reads 30 = .ok (.iload_n 1, 1) := by decide +kernel
theorem dX9_reads_31 : decode cX9_reads 31 = .ok (.iconst 5, 1) := by decide +kernel
theorem dX9_reads_32 : decode cX9_reads 32 = .ok (.if_icmp .eq 9, 3) := by decide +kernel
theorem dX9_reads_35 : decode cX9_reads 35 = .ok (.iload_n 1, 1) := by decide +kernel
theorem dX9_reads_36 : decode cX9_reads 36 = .ok (.bipush 6, 2) := by decide +kernel
theorem dX9_reads_38 : decode cX9_reads 38 = .ok (.if_icmp .ne 7, 3) := by decide +kernel
theorem dX9_reads_41 : decode cX9_reads 41 = .ok (.iconst 1, 1) := by decide +kernel
theorem dX9_reads_42 : decode cX9_reads 42 = .ok (.goto 4, 3) := by decide +kernel
theorem dX9_reads_45 : decode cX9_reads 45 = .ok (.iconst 0, 1) := by decide +kernel
theorem dX9_reads_46 : decode cX9_reads 46 = .ok (.istore_n 2, 1) := by decide +kernel
theorem dX9_reads_47 : decode cX9_reads 47 = .ok (.iload_n 2, 1) := by decide +kernel
theorem dX9_reads_48 : decode cX9_reads 48 = .ok (.ifCond .eq 12, 3) := by decide +kernel
theorem dX9_reads_51 : decode cX9_reads 51 = .ok (.aload_n 0, 1) := by decide +kernel
theorem dX9_reads_52 : decode cX9_reads 52 = .ok (.bipush 8, 2) := by decide +kernel
theorem dX9_reads_54 : decode cX9_reads 54 = .ok (.invokevirtual 425, 3) := by decide +kernel
theorem dX9_reads_57 : decode cX9_reads 57 = .ok (.goto 4, 3) := by decide +kernel
theorem dX9_reads_60 : decode cX9_reads 60 = .ok (.lconst 0, 1) := by decide +kernel
theorem dX9_reads_61 : decode cX9_reads 61 = .ok (.lstore_n 3, 1) := by decide +kernel
theorem dX9_reads_62 : decode cX9_reads 62 = .ok (.iload_n 2, 1) := by decide +kernel
theorem dX9_reads_63 : decode cX9_reads 63 = .ok (.ifCond .eq 21, 3) := by decide +kernel
theorem dX9_reads_66 : decode cX9_reads 66 = .ok (.lload_n 3, 1) := by decide +kernel
theorem dX9_reads_67 : decode cX9_reads 67 = .ok (.lconst 0, 1) := by decide +kernel
theorem dX9_reads_68 : decode cX9_reads 68 = .ok (.lcmp, 1) := by decide +kernel
theorem dX9_reads_69 : decode cX9_reads 69 = .ok (.ifCond .eq 13, 3) := by decide +kernel
theorem dX9_reads_72 : decode cX9_reads 72 = .ok (.aload_n 0, 1) := by decide +kernel
theorem dX9_reads_73 : decode cX9_reads 73 = .ok (.iconst 1, 1) := by decide +kernel
theorem dX9_reads_74 : decode cX9_reads 74 = .ok (.lload_n 3, 1) := by decide +kernel
theorem dX9_reads_75 : decode cX9_reads 75 = .ok (.invokevirtual 288, 3) := by decide +kernel
theorem dX9_reads_78 : decode cX9_reads 78 = .ok (.iconst (-1), 1) := by decide +kernel
theorem dX9_reads_79 : decode cX9_reads 79 = .ok (.if_icmp .eq 5, 3) := by decide +kernel
theorem dX9_reads_82 : decode cX9_reads 82 = .ok (.iconst 0, 1) := by decide +kernel
theorem dX9_reads_83 : decode cX9_reads 83 = .ok (.ireturn, 1) := by decide +kernel
theorem dX9_reads_84 : decode cX9_reads 84 = .ok (.aload_n 0, 1) := by decide +kernel
theorem dX9_reads_85 : decode cX9_reads 85 = .ok (.iload_n 1, 1) := by decide +kernel
theorem dX9_reads_86 : decode cX9_reads 86 = .ok (.lload_n 3, 1) := by decide +kernel
theorem dX9_reads_87 : decode cX9_reads 87 = .ok (.invokevirtual 281, 3) := by decide +kernel
theorem dX9_reads_90 : decode cX9_reads 90 = .ok (.iload_n 1, 1) := by decide +kernel
theorem dX9_reads_91 : decode cX9_reads 91 = .ok (.iconst 5, 1) := by decide +kernel
theorem dX9_reads_92 : decode cX9_reads 92 = .ok (.if_icmp .eq 14, 3) := by decide +kernel
theorem dX9_reads_95 : decode cX9_reads 95 = .ok (.iload_n 1, 1) := by decide +kernel
theorem dX9_reads_96 : decode cX9_reads 96 = .ok (.iconst 4, 1) := by decide +kernel
theorem dX9_reads_97 : decode cX9_reads 97 = .ok (.if_icmp .eq 9, 3) := by decide +kernel
theorem dX9_reads_100 : decode cX9_reads 100 = .ok (.iload_n 1, 1) := by decide +kernel
theorem dX9_reads_101 : decode cX9_reads 101 = .ok (.bipush 6, 2) := by decide +kernel
theorem dX9_reads_103 : decode cX9_reads 103 = .ok (.if_icmp .ne 14, 3) := by decide +kernel
theorem dX9_reads_106 : decode cX9_reads 106 = .ok (.aload_n 0, 1) := by decide +kernel
theorem dX9_reads_107 : decode cX9_reads 107 = .ok (.aload_n 0, 1) := by decide +kernel
theorem dX9_reads_108 : decode cX9_reads 108 = .ok (.iconst 2, 1) := by decide +kernel
theorem dX9_reads_109 : decode cX9_reads 109 = .ok (.invokevirtual 425, 3) := by decide +kernel
theorem dX9_reads_112 : decode cX9_reads 112 = .ok (.l2i, 1) := by decide +kernel
theorem dX9_reads_113 : decode cX9_reads 113 = .ok (.i2s, 1) := by decide +kernel
theorem dX9_reads_114 : decode cX9_reads 114 = .ok (.putfield 228, 3) := by decide +kernel
theorem dX9_reads_117 : decode cX9_reads 117 = .ok (.iload_n 1, 1) := by decide +kernel
theorem dX9_reads_118 : decode cX9_reads 118 = .ok (.iconst 5, 1) := by decide +kernel
theorem dX9_reads_119 : decode cX9_reads 119 = .ok (.if_icmp .eq 14, 3) := by decide +kernel
theorem dX9_reads_122 : decode cX9_reads 122 = .ok (.iload_n 1, 1) := by decide +kernel
theorem dX9_reads_123 : decode cX9_reads 123 = .ok (.iconst 4, 1) := by decide +kernel
theorem dX9_reads_124 : decode cX9_reads 124 = .ok (.if_icmp .eq 9, 3) := by decide +kernel
theorem dX9_reads_127 : decode cX9_reads 127 = .ok (.iload_n 1, 1) := by decide +kernel
theorem dX9_reads_128 : decode cX9_reads 128 = .ok (.bipush 6, 2) := by decide +kernel
theorem dX9_reads_130 : decode cX9_reads 130 = .ok (.if_icmp .ne 19, 3) := by decide +kernel
theorem dX9_reads_133 : decode cX9_reads 133 = .ok (.aload_n 0, 1) := by decide +kernel
theorem dX9_reads_134 : decode cX9_reads 134 = .ok (.getfield 228, 3) := by decide +kernel
theorem dX9_reads_137 : decode cX9_reads 137 = .ok (.iconst 0, 1) := by decide +kernel
theorem dX9_reads_138 : decode cX9_reads 138 = .ok (.sipush 199, 3) := by decide +kernel
theorem dX9_reads_141 : decode cX9_reads 141 = .ok (.invokestatic 311, 3) := by decide +kernel
theorem dX9_reads_144 : decode cX9_reads 144 = .ok (.ifCond .ne 5, 3) := by decide +kernel
theorem dX9_reads_147 : decode cX9_reads 147 = .ok (.iconst 0, 1) := by decide +kernel
theorem dX9_reads_148 : decode cX9_reads 148 = .ok (.ireturn, 1) := by decide +kernel
theorem dX9_reads_149 : decode cX9_reads 149 = .ok (.iload_n 1, 1) := by decide +kernel
theorem dX9_reads_150 : decode cX9_reads 150 = .ok (.iconst 3, 1) := by decide +kernel
theorem dX9_reads_151 : decode cX9_reads 151 = .ok (.if_icmp .eq 8, 3) := by decide +kernel
theorem dX9_reads_154 : decode cX9_reads 154 = .ok (.iload_n 1, 1) := by decide +kernel
theorem dX9_reads_155 : decode cX9_reads 155 = .ok (.iconst 5, 1) := by decide +kernel
theorem dX9_reads_156 : decode cX9_reads 156 = .ok (.if_icmp .ne 13, 3) := by decide +kernel
theorem dX9_reads_159 : decode cX9_reads 159 = .ok (.aload_n 0, 1) := by decide +kernel
theorem dX9_reads_160 : decode cX9_reads 160 = .ok (.aload_n 0, 1) := by decide +kernel
theorem dX9_reads_161 : decode cX9_reads 161 = .ok (.iconst 1, 1) := by decide +kernel
theorem dX9_reads_162 : decode cX9_reads 162 = .ok (.invokevirtual 425, 3) := by decide +kernel
theorem dX9_reads_165 : decode cX9_reads 165 = .ok (.l2i, 1) := by decide +kernel
theorem dX9_reads_166 : decode cX9_reads 166 = .ok (.putfield 231, 3) := by decide +kernel
theorem dX9_reads_169 : decode cX9_reads 169 = .ok (.iload_n 1, 1) := by decide +kernel
theorem dX9_reads_170 : decode cX9_reads 170 = .ok (.iconst 3, 1) := by decide +kernel
theorem dX9_reads_171 : decode cX9_reads 171 = .ok (.if_icmp .eq 13, 3) := by decide +kernel
theorem dX9_reads_174 : decode cX9_reads 174 = .ok (.iload_n 1, 1) := by decide +kernel
theorem dX9_reads_175 : decode cX9_reads 175 = .ok (.iconst 5, 1) := by decide +kernel
theorem dX9_reads_176 : decode cX9_reads 176 = .ok (.if_icmp .eq 8, 3) := by decide +kernel
theorem dX9_reads_179 : decode cX9_reads 179 = .ok (.iload_n 1, 1) := by decide +kernel
theorem dX9_reads_180 : decode cX9_reads 180 = .ok (.iconst 1, 1) := by decide +kernel
theorem dX9_reads_181 : decode cX9_reads 181 = .ok (.if_icmp .ne 13, 3) := by decide +kernel
theorem dX9_reads_184 : decode cX9_reads 184 = .ok (.aload_n 0, 1) := by decide +kernel
theorem dX9_reads_185 : decode cX9_reads 185 = .ok (.aload_n 0, 1) := by decide +kernel
theorem dX9_reads_186 : decode cX9_reads 186 = .ok (.bipush 8, 2) := by decide +kernel
theorem dX9_reads_188 : decode cX9_reads 188 = .ok (.invokevirtual 425, 3) := by decide +kernel
theorem dX9_reads_191 : decode cX9_reads 191 = .ok (.putfield 234, 3) := by decide +kernel
theorem dX9_reads_194 : decode cX9_reads 194 = .ok (.iload_n 1, 1) := by decide +kernel
theorem dX9_reads_195 : decode cX9_reads 195 = .ok (.iconst 1, 1) := by decide +kernel
theorem dX9_reads_196 : decode cX9_reads 196 = .ok (.if_icmp .ne 29, 3) := by decide +kernel
theorem dX9_reads_199 : decode cX9_reads 199 = .ok (.aload_n 0, 1) := by decide +kernel
theorem dX9_reads_200 : decode cX9_reads 200 = .ok (.getfield 234, 3) := by decide +kernel
theorem dX9_reads_203 : decode cX9_reads 203 = .ok (.lconst 0, 1) := by decide +kernel
theorem dX9_reads_204 : decode cX9_reads 204 = .ok (.lcmp, 1) := by decide +kernel
theorem dX9_reads_205 : decode cX9_reads 205 = .ok (.ifCond .gt 18, 3) := by decide +kernel
theorem dX9_reads_208 : decode cX9_reads 208 = .ok (.aload_n 0, 1) := by decide +kernel
theorem dX9_reads_209 : decode cX9_reads 209 = .ok (.getfield 7, 3) := by decide +kernel
theorem dX9_reads_212 : decode cX9_reads 212 = .ok (.iconst 1, 1) := by decide +kernel
theorem dX9_reads_213 : decode cX9_reads 213 = .ok (.iaload, 1) := by decide +kernel
theorem dX9_reads_214 : decode cX9_reads 214 = .ok (.bipush 40, 2) := by decide +kernel
theorem dX9_reads_216 : decode cX9_reads 216 = .ok (.if_icmp .ge 7, 3) := by decide +kernel
theorem dX9_reads_219 : decode cX9_reads 219 = .ok (.iconst 1, 1) := by decide +kernel
theorem dX9_reads_220 : decode cX9_reads 220 = .ok (.goto 4, 3) := by decide +kernel
theorem dX9_reads_223 : decode cX9_reads 223 = .ok (.iconst 0, 1) := by decide +kernel
theorem dX9_reads_224 : decode cX9_reads 224 = .ok (.ireturn, 1) := by decide +kernel
theorem dX9_reads_225 : decode cX9_reads 225 = .ok (.iload_n 1, 1) := by decide +kernel
theorem dX9_reads_226 : decode cX9_reads 226 = .ok (.iconst 3, 1) := by decide +kernel
theorem dX9_reads_227 : decode cX9_reads 227 = .ok (.if_icmp .eq 8, 3) := by decide +kernel
theorem dX9_reads_230 : decode cX9_reads 230 = .ok (.iload_n 1, 1) := by decide +kernel
theorem dX9_reads_231 : decode cX9_reads 231 = .ok (.iconst 5, 1) := by decide +kernel
theorem dX9_reads_232 : decode cX9_reads 232 = .ok (.if_icmp .ne 18, 3) := by decide +kernel
theorem dX9_reads_235 : decode cX9_reads 235 = .ok (.aload_n 0, 1) := by decide +kernel
theorem dX9_reads_236 : decode cX9_reads 236 = .ok (.getfield 234, 3) := by decide +kernel
theorem dX9_reads_239 : decode cX9_reads 239 = .ok (.lconst 0, 1) := by decide +kernel
theorem dX9_reads_240 : decode cX9_reads 240 = .ok (.lcmp, 1) := by decide +kernel
theorem dX9_reads_241 : decode cX9_reads 241 = .ok (.ifCond .le 7, 3) := by decide +kernel
theorem dX9_reads_244 : decode cX9_reads 244 = .ok (.iconst 1, 1) := by decide +kernel
theorem dX9_reads_245 : decode cX9_reads 245 = .ok (.goto 4, 3) := by decide +kernel
theorem dX9_reads_248 : decode cX9_reads 248 = .ok (.iconst 0, 1) := by decide +kernel
theorem dX9_reads_249 : decode cX9_reads 249 = .ok (.ireturn, 1) := by decide +kernel
theorem dX9_reads_250 : decode cX9_reads 250 = .ok (.iload_n 1, 1) := by decide +kernel
theorem dX9_reads_251 : decode cX9_reads 251 = .ok (.iconst 2, 1) := by decide +kernel
theorem dX9_reads_252 : decode cX9_reads 252 = .ok (.if_icmp .ne 10, 3) := by decide +kernel
theorem dX9_reads_255 : decode cX9_reads 255 = .ok (.aload_n 0, 1) := by decide +kernel
theorem dX9_reads_256 : decode cX9_reads 256 = .ok (.invokevirtual 429, 3) := by decide +kernel
theorem dX9_reads_259 : decode cX9_reads 259 = .ok (.ifCond .eq 7, 3) := by decide +kernel
theorem dX9_reads_262 : decode cX9_reads 262 = .ok (.iconst 1, 1) := by decide +kernel
theorem dX9_reads_263 : decode cX9_reads 263 = .ok (.goto 4, 3) := by decide +kernel
theorem dX9_reads_266 : decode cX9_reads 266 = .ok (.iconst 0, 1) := by decide +kernel
theorem dX9_reads_267 : decode cX9_reads 267 = .ok (.ireturn, 1) := by decide +kernel
theorem dX9_readsLegs_0 : decode cX9_readsLegs 0 = .ok (.aload_n 0, 1) := by decide +kernel
theorem dX9_readsLegs_1 : decode cX9_readsLegs 1 = .ok (.iconst 1, 1) := by decide +kernel
theorem dX9_readsLegs_2 : decode cX9_readsLegs 2 = .ok (.invokevirtual 425, 3) := by decide +kernel
theorem dX9_readsLegs_5 : decode cX9_readsLegs 5 = .ok (.l2i, 1) := by decide +kernel
theorem dX9_readsLegs_6 : decode cX9_readsLegs 6 = .ok (.istore_n 1, 1) := by decide +kernel
theorem dX9_readsLegs_7 : decode cX9_readsLegs 7 = .ok (.iload_n 1, 1) := by decide +kernel
theorem dX9_readsLegs_8 : decode cX9_readsLegs 8 = .ok (.iconst 1, 1) := by decide +kernel
theorem dX9_readsLegs_9 : decode cX9_readsLegs 9 = .ok (.bipush 8, 2) := by decide +kernel
theorem dX9_readsLegs_11 : decode cX9_readsLegs 11 = .ok (.invokestatic 311, 3) := by decide +kernel
theorem dX9_readsLegs_14 : decode cX9_readsLegs 14 = .ok (.ifCond .ne 5, 3) := by decide +kernel
theorem dX9_readsLegs_17 : decode cX9_readsLegs 17 = .ok (.iconst 0, 1) := by decide +kernel
theorem dX9_readsLegs_18 : decode cX9_readsLegs 18 = .ok (.ireturn, 1) := by decide +kernel
theorem dX9_readsLegs_19 : decode cX9_readsLegs 19 = .ok (.iconst 1, 1) := by decide +kernel
theorem dX9_readsLegs_20 : decode cX9_readsLegs 20 = .ok (.istore_n 2, 1) := by decide +kernel
theorem dX9_readsLegs_21 : decode cX9_readsLegs 21 = .ok (.iconst 0, 1) := by decide +kernel
theorem dX9_readsLegs_22 : decode cX9_readsLegs 22 = .ok (.istore_n 3, 1) := by decide +kernel
theorem dX9_readsLegs_23 : decode cX9_readsLegs 23 = .ok (.iload_n 3, 1) := by decide +kernel
theorem dX9_readsLegs_24 : decode cX9_readsLegs 24 = .ok (.iload_n 1, 1) := by decide +kernel
theorem dX9_readsLegs_25 : decode cX9_readsLegs 25 = .ok (.if_icmp .ge 60, 3) := by decide +kernel
theorem dX9_readsLegs_28 : decode cX9_readsLegs 28 = .ok (.aload_n 0, 1) := by decide +kernel
theorem dX9_readsLegs_29 : decode cX9_readsLegs 29 = .ok (.iconst 1, 1) := by decide +kernel
theorem dX9_readsLegs_30 : decode cX9_readsLegs 30 = .ok (.invokevirtual 425, 3) := by decide +kernel
theorem dX9_readsLegs_33 : decode cX9_readsLegs 33 = .ok (.l2i, 1) := by decide +kernel
theorem dX9_readsLegs_34 : decode cX9_readsLegs 34 = .ok (.istore 4, 2) := by decide +kernel
theorem dX9_readsLegs_36 : decode cX9_readsLegs 36 = .ok (.aload_n 0, 1) := by decide +kernel
theorem dX9_readsLegs_37 : decode cX9_readsLegs 37 = .ok (.bipush 8, 2) := by decide +kernel
theorem dX9_readsLegs_39 : decode cX9_readsLegs 39 = .ok (.invokevirtual 425, 3) := by decide +kernel
theorem dX9_readsLegs_42 : decode cX9_readsLegs 42 = .ok (.lstore 5, 2) := by decide +kernel
theorem dX9_readsLegs_44 : decode cX9_readsLegs 44 = .ok (.iload_n 2, 1) := by decide +kernel
theorem dX9_readsLegs_45 : decode cX9_readsLegs 45 = .ok (.ifCond .eq 23, 3) := by decide +kernel
theorem dX9_readsLegs_48 : decode cX9_readsLegs 48 = .ok (.lload 5, 2) := by decide +kernel
theorem dX9_readsLegs_50 : decode cX9_readsLegs 50 = .ok (.lconst 0, 1) := by decide +kernel
theorem dX9_readsLegs_51 : decode cX9_readsLegs 51 = .ok (.lcmp, 1) := by decide +kernel
theorem dX9_readsLegs_52 : decode cX9_readsLegs 52 = .ok (.ifCond .eq 16, 3) := by decide +kernel
theorem dX9_readsLegs_55 : decode cX9_readsLegs 55 = .ok (.lload 5, 2) := by decide +kernel
theorem dX9_readsLegs_57 : decode cX9_readsLegs 57 = .ok (.ldc2_w 315, 3) := by decide +kernel
theorem dX9_readsLegs_60 : decode cX9_readsLegs 60 = .ok (.lcmp, 1) := by decide +kernel
theorem dX9_readsLegs_61 : decode cX9_readsLegs 61 = .ok (.ifCond .eq 7, 3) := by decide +kernel
theorem dX9_readsLegs_64 : decode cX9_readsLegs 64 = .ok (.iconst 1, 1) := by decide +kernel
theorem dX9_readsLegs_65 : decode cX9_readsLegs 65 = .ok (.goto 4, 3) := by decide +kernel
theorem dX9_readsLegs_68 : decode cX9_readsLegs 68 = .ok (.iconst 0, 1) := by decide +kernel
theorem dX9_readsLegs_69 : decode cX9_readsLegs 69 = .ok (.istore_n 2, 1) := by decide +kernel
theorem dX9_readsLegs_70 : decode cX9_readsLegs 70 = .ok (.aload_n 0, 1) := by decide +kernel
theorem dX9_readsLegs_71 : decode cX9_readsLegs 71 = .ok (.iload 4, 2) := by decide +kernel
theorem dX9_readsLegs_73 : decode cX9_readsLegs 73 = .ok (.lload 5, 2) := by decide +kernel
theorem dX9_readsLegs_75 : decode cX9_readsLegs 75 = .ok (.iload_n 3, 1) := by decide +kernel
theorem dX9_readsLegs_76 : decode cX9_readsLegs 76 = .ok (.invokevirtual 257, 3) := by decide +kernel
theorem dX9_readsLegs_79 : decode cX9_readsLegs 79 = .ok (.iinc 3 1, 3) := by decide +kernel
theorem dX9_readsLegs_82 : decode cX9_readsLegs 82 = .ok (.goto (-59), 3) := by decide +kernel
theorem dX9_readsLegs_85 : decode cX9_readsLegs 85 = .ok (.iload_n 2, 1) := by decide +kernel
theorem dX9_readsLegs_86 : decode cX9_readsLegs 86 = .ok (.ireturn, 1) := by decide +kernel
theorem dX9_isTrial_0 : decode cX9_isTrial 0 = .ok (.aload_n 0, 1) := by decide +kernel
theorem dX9_isTrial_1 : decode cX9_isTrial 1 = .ok (.iconst 1, 1) := by decide +kernel
theorem dX9_isTrial_2 : decode cX9_isTrial 2 = .ok (.invokevirtual 305, 3) := by decide +kernel
theorem dX9_isTrial_5 : decode cX9_isTrial 5 = .ok (.aload_n 0, 1) := by decide +kernel
theorem dX9_isTrial_6 : decode cX9_isTrial 6 = .ok (.getfield 66, 3) := by decide +kernel
theorem dX9_isTrial_9 : decode cX9_isTrial 9 = .ok (.aload_n 0, 1) := by decide +kernel
theorem dX9_isTrial_10 : decode cX9_isTrial 10 = .ok (.getfield 422, 3) := by decide +kernel
theorem dX9_isTrial_13 : decode cX9_isTrial 13 = .ok (.iaload, 1) := by decide +kernel
theorem dX9_isTrial_14 : decode cX9_isTrial 14 = .ok (.bipush 7, 2) := by decide +kernel
theorem dX9_isTrial_16 : decode cX9_isTrial 16 = .ok (.if_icmp .ne 7, 3) := by decide +kernel
theorem dX9_isTrial_19 : decode cX9_isTrial 19 = .ok (.iconst 1, 1) := by decide +kernel
theorem dX9_isTrial_20 : decode cX9_isTrial 20 = .ok (.goto 4, 3) := by decide +kernel
theorem dX9_isTrial_23 : decode cX9_isTrial 23 = .ok (.iconst 0, 1) := by decide +kernel
theorem dX9_isTrial_24 : decode cX9_isTrial 24 = .ok (.istore_n 1, 1) := by decide +kernel
theorem dX9_isTrial_25 : decode cX9_isTrial 25 = .ok (.iconst 0, 1) := by decide +kernel
theorem dX9_isTrial_26 : decode cX9_isTrial 26 = .ok (.istore_n 2, 1) := by decide +kernel
theorem dX9_isTrial_27 : decode cX9_isTrial 27 = .ok (.iload_n 2, 1) := by decide +kernel
theorem dX9_isTrial_28 : decode cX9_isTrial 28 = .ok (.aload_n 0, 1) := by decide +kernel
theorem dX9_isTrial_29 : decode cX9_isTrial 29 = .ok (.getfield 237, 3) := by decide +kernel
theorem dX9_isTrial_32 : decode cX9_isTrial 32 = .ok (.if_icmp .ge 39, 3) := by decide +kernel
theorem dX9_isTrial_35 : decode cX9_isTrial 35 = .ok (.iload_n 1, 1) := by decide +kernel
theorem dX9_isTrial_36 : decode cX9_isTrial 36 = .ok (.ifCond .eq 35, 3) := by decide +kernel
theorem dX9_isTrial_39 : decode cX9_isTrial 39 = .ok (.aload_n 0, 1) := by decide +kernel
theorem dX9_isTrial_40 : decode cX9_isTrial 40 = .ok (.getfield 66, 3) := by decide +kernel
theorem dX9_isTrial_43 : decode cX9_isTrial 43 = .ok (.aload_n 0, 1) := by decide +kernel
theorem dX9_isTrial_44 : decode cX9_isTrial 44 = .ok (.getfield 422, 3) := by decide +kernel
theorem dX9_isTrial_47 : decode cX9_isTrial 47 = .ok (.iload_n 2, 1) := by decide +kernel
theorem dX9_isTrial_48 : decode cX9_isTrial 48 = .ok (.iadd, 1) := by decide +kernel
theorem dX9_isTrial_49 : decode cX9_isTrial 49 = .ok (.iaload, 1) := by decide +kernel
theorem dX9_isTrial_50 : decode cX9_isTrial 50 = .ok (.aload_n 0, 1) := by decide +kernel
theorem dX9_isTrial_51 : decode cX9_isTrial 51 = .ok (.getfield 90, 3) := by decide +kernel
theorem dX9_isTrial_54 : decode cX9_isTrial 54 = .ok (.iload_n 2, 1) := by decide +kernel
theorem dX9_isTrial_55 : decode cX9_isTrial 55 = .ok (.iaload, 1) := by decide +kernel
theorem dX9_isTrial_56 : decode cX9_isTrial 56 = .ok (.if_icmp .ne 7, 3) := by decide +kernel
theorem dX9_isTrial_59 : decode cX9_isTrial 59 = .ok (.iconst 1, 1) := by decide +kernel
theorem dX9_isTrial_60 : decode cX9_isTrial 60 = .ok (.goto 4, 3) := by decide +kernel
theorem dX9_isTrial_63 : decode cX9_isTrial 63 = .ok (.iconst 0, 1) := by decide +kernel
theorem dX9_isTrial_64 : decode cX9_isTrial 64 = .ok (.istore_n 1, 1) := by decide +kernel
theorem dX9_isTrial_65 : decode cX9_isTrial 65 = .ok (.iinc 2 1, 3) := by decide +kernel
theorem dX9_isTrial_68 : decode cX9_isTrial 68 = .ok (.goto (-41), 3) := by decide +kernel
theorem dX9_isTrial_71 : decode cX9_isTrial 71 = .ok (.aload_n 0, 1) := by decide +kernel
theorem dX9_isTrial_72 : decode cX9_isTrial 72 = .ok (.dup, 1) := by decide +kernel
theorem dX9_isTrial_73 : decode cX9_isTrial 73 = .ok (.getfield 422, 3) := by decide +kernel
theorem dX9_isTrial_76 : decode cX9_isTrial 76 = .ok (.aload_n 0, 1) := by decide +kernel
theorem dX9_isTrial_77 : decode cX9_isTrial 77 = .ok (.getfield 237, 3) := by decide +kernel
theorem dX9_isTrial_80 : decode cX9_isTrial 80 = .ok (.iadd, 1) := by decide +kernel
theorem dX9_isTrial_81 : decode cX9_isTrial 81 = .ok (.putfield 422, 3) := by decide +kernel
theorem dX9_isTrial_84 : decode cX9_isTrial 84 = .ok (.iload_n 1, 1) := by decide +kernel
theorem dX9_isTrial_85 : decode cX9_isTrial 85 = .ok (.ireturn, 1) := by decide +kernel
theorem dX9_tells_0 : decode cX9_tells 0 = .ok (.iload_n 1, 1) := by decide +kernel
theorem dX9_tells_1 : decode cX9_tells 1 = .ok (.istore_n 2, 1) := by decide +kernel
theorem dX9_tells_2 : decode cX9_tells 2 = .ok (.iload_n 2, 1) := by decide +kernel
theorem dX9_tells_3 : decode cX9_tells 3 = .ok (.aload_n 0, 1) := by decide +kernel
theorem dX9_tells_4 : decode cX9_tells 4 = .ok (.getfield 324, 3) := by decide +kernel
theorem dX9_tells_7 : decode cX9_tells 7 = .ok (.if_icmp .ge 52, 3) := by decide +kernel
theorem dX9_tells_10 : decode cX9_tells 10 = .ok (.aload_n 0, 1) := by decide +kernel
theorem dX9_tells_11 : decode cX9_tells 11 = .ok (.getfield 78, 3) := by decide +kernel
theorem dX9_tells_14 : decode cX9_tells 14 = .ok (.iload_n 2, 1) := by decide +kernel
theorem dX9_tells_15 : decode cX9_tells 15 = .ok (.iaload, 1) := by decide +kernel
theorem dX9_tells_16 : decode cX9_tells 16 = .ok (.aload_n 0, 1) := by decide +kernel
theorem dX9_tells_17 : decode cX9_tells 17 = .ok (.getfield 13, 3) := by decide +kernel
theorem dX9_tells_20 : decode cX9_tells 20 = .ok (.iconst 1, 1) := by decide +kernel
theorem dX9_tells_21 : decode cX9_tells 21 = .ok (.iaload, 1) := by decide +kernel
theorem dX9_tells_22 : decode cX9_tells 22 = .ok (.if_icmp .gt 37, 3) := by decide +kernel
theorem dX9_tells_25 : decode cX9_tells 25 = .ok (.aload_n 0, 1) := by decide +kernel
theorem dX9_tells_26 : decode cX9_tells 26 = .ok (.getfield 22, 3) := by decide +kernel
theorem dX9_tells_29 : decode cX9_tells 29 = .ok (.iconst 1, 1) := by decide +kernel
theorem dX9_tells_30 : decode cX9_tells 30 = .ok (.baload, 1) := by decide +kernel
theorem dX9_tells_31 : decode cX9_tells 31 = .ok (.ifCond .ne 28, 3) := by decide +kernel
theorem dX9_tells_34 : decode cX9_tells 34 = .ok (.aload_n 0, 1) := by decide +kernel
theorem dX9_tells_35 : decode cX9_tells 35 = .ok (.getfield 16, 3) := by decide +kernel
theorem dX9_tells_38 : decode cX9_tells 38 = .ok (.iconst 1, 1) := by decide +kernel
theorem dX9_tells_39 : decode cX9_tells 39 = .ok (.aload_n 0, 1) := by decide +kernel
theorem dX9_tells_40 : decode cX9_tells 40 = .ok (.getfield 81, 3) := by decide +kernel
theorem dX9_tells_43 : decode cX9_tells 43 = .ok (.iload_n 2, 1) := by decide +kernel
theorem dX9_tells_44 : decode cX9_tells 44 = .ok (.iaload, 1) := by decide +kernel
theorem dX9_tells_45 : decode cX9_tells 45 = .ok (.iastore, 1) := by decide +kernel
theorem dX9_tells_46 : decode cX9_tells 46 = .ok (.aload_n 0, 1) := by decide +kernel
theorem dX9_tells_47 : decode cX9_tells 47 = .ok (.getfield 19, 3) := by decide +kernel
theorem dX9_tells_50 : decode cX9_tells 50 = .ok (.iconst 1, 1) := by decide +kernel
theorem dX9_tells_51 : decode cX9_tells 51 = .ok (.iconst 0, 1) := by decide +kernel
theorem dX9_tells_52 : decode cX9_tells 52 = .ok (.iastore, 1) := by decide +kernel
theorem dX9_tells_53 : decode cX9_tells 53 = .ok (.iinc 2 1, 3) := by decide +kernel
theorem dX9_tells_56 : decode cX9_tells 56 = .ok (.goto (-54), 3) := by decide +kernel
theorem dX9_tells_59 : decode cX9_tells 59 = .ok (.iload_n 2, 1) := by decide +kernel
theorem dX9_tells_60 : decode cX9_tells 60 = .ok (.ireturn, 1) := by decide +kernel
theorem dX9_audit_0 : decode cX9_audit 0 = .ok (.aload_n 0, 1) := by decide +kernel
theorem dX9_audit_1 : decode cX9_audit 1 = .ok (.getfield 7, 3) := by decide +kernel
theorem dX9_audit_4 : decode cX9_audit 4 = .ok (.iconst 1, 1) := by decide +kernel
theorem dX9_audit_5 : decode cX9_audit 5 = .ok (.iconst 0, 1) := by decide +kernel
theorem dX9_audit_6 : decode cX9_audit 6 = .ok (.iastore, 1) := by decide +kernel
theorem dX9_audit_7 : decode cX9_audit 7 = .ok (.aload_n 0, 1) := by decide +kernel
theorem dX9_audit_8 : decode cX9_audit 8 = .ok (.getfield 13, 3) := by decide +kernel
theorem dX9_audit_11 : decode cX9_audit 11 = .ok (.iconst 1, 1) := by decide +kernel
theorem dX9_audit_12 : decode cX9_audit 12 = .ok (.iconst 0, 1) := by decide +kernel
theorem dX9_audit_13 : decode cX9_audit 13 = .ok (.iastore, 1) := by decide +kernel
theorem dX9_audit_14 : decode cX9_audit 14 = .ok (.aload_n 0, 1) := by decide +kernel
theorem dX9_audit_15 : decode cX9_audit 15 = .ok (.getfield 16, 3) := by decide +kernel
theorem dX9_audit_18 : decode cX9_audit 18 = .ok (.iconst 1, 1) := by decide +kernel
theorem dX9_audit_19 : decode cX9_audit 19 = .ok (.iconst 0, 1) := by decide +kernel
end
section
theorem dX9_audit_20 : decode cX9_audit 20 = .ok (.iastore, 1) := by decide +kernel
theorem dX9_audit_21 : decode cX9_audit 21 = .ok (.aload_n 0, 1) := by decide +kernel
theorem dX9_audit_22 : decode cX9_audit 22 = .ok (.getfield 19, 3) := by decide +kernel
theorem dX9_audit_25 : decode cX9_audit 25 = .ok (.iconst 1, 1) := by decide +kernel
theorem dX9_audit_26 : decode cX9_audit 26 = .ok (.iconst 0, 1) := by decide +kernel
theorem dX9_audit_27 : decode cX9_audit 27 = .ok (.iastore, 1) := by decide +kernel
theorem dX9_audit_28 : decode cX9_audit 28 = .ok (.aload_n 0, 1) := by decide +kernel
theorem dX9_audit_29 : decode cX9_audit 29 = .ok (.getfield 22, 3) := by decide +kernel
theorem dX9_audit_32 : decode cX9_audit 32 = .ok (.iconst 1, 1) := by decide +kernel
theorem dX9_audit_33 : decode cX9_audit 33 = .ok (.iconst 0, 1) := by decide +kernel
theorem dX9_audit_34 : decode cX9_audit 34 = .ok (.bastore, 1) := by decide +kernel
theorem dX9_audit_35 : decode cX9_audit 35 = .ok (.aload_n 0, 1) := by decide +kernel
theorem dX9_audit_36 : decode cX9_audit 36 = .ok (.iconst 0, 1) := by decide +kernel
theorem dX9_audit_37 : decode cX9_audit 37 = .ok (.putfield 422, 3) := by decide +kernel
theorem dX9_audit_40 : decode cX9_audit 40 = .ok (.aload_n 0, 1) := by decide +kernel
theorem dX9_audit_41 : decode cX9_audit 41 = .ok (.iconst 0, 1) := by decide +kernel
theorem dX9_audit_42 : decode cX9_audit 42 = .ok (.invokevirtual 432, 3) := by decide +kernel
theorem dX9_audit_45 : decode cX9_audit 45 = .ok (.istore_n 1, 1) := by decide +kernel
theorem dX9_audit_46 : decode cX9_audit 46 = .ok (.aload_n 0, 1) := by decide +kernel
theorem dX9_audit_47 : decode cX9_audit 47 = .ok (.getfield 422, 3) := by decide +kernel
theorem dX9_audit_50 : decode cX9_audit 50 = .ok (.aload_n 0, 1) := by decide +kernel
theorem dX9_audit_51 : decode cX9_audit 51 = .ok (.getfield 285, 3) := by decide +kernel
theorem dX9_audit_54 : decode cX9_audit 54 = .ok (.if_icmp .ge 152, 3) := by decide +kernel
theorem dX9_audit_57 : decode cX9_audit 57 = .ok (.aload_n 0, 1) := by decide +kernel
theorem dX9_audit_58 : decode cX9_audit 58 = .ok (.getfield 422, 3) := by decide +kernel
theorem dX9_audit_61 : decode cX9_audit 61 = .ok (.aload_n 0, 1) := by decide +kernel
theorem dX9_audit_62 : decode cX9_audit 62 = .ok (.aload_n 0, 1) := by decide +kernel
theorem dX9_audit_63 : decode cX9_audit 63 = .ok (.getfield 422, 3) := by decide +kernel
theorem dX9_audit_66 : decode cX9_audit 66 = .ok (.invokevirtual 435, 3) := by decide +kernel
theorem dX9_audit_69 : decode cX9_audit 69 = .ok (.iadd, 1) := by decide +kernel
theorem dX9_audit_70 : decode cX9_audit 70 = .ok (.istore_n 2, 1) := by decide +kernel
theorem dX9_audit_71 : decode cX9_audit 71 = .ok (.iload_n 2, 1) := by decide +kernel
theorem dX9_audit_72 : decode cX9_audit 72 = .ok (.aload_n 0, 1) := by decide +kernel
theorem dX9_audit_73 : decode cX9_audit 73 = .ok (.getfield 285, 3) := by decide +kernel
theorem dX9_audit_76 : decode cX9_audit 76 = .ok (.if_icmp .gt 15, 3) := by decide +kernel
theorem dX9_audit_79 : decode cX9_audit 79 = .ok (.aload_n 0, 1) := by decide +kernel
theorem dX9_audit_80 : decode cX9_audit 80 = .ok (.getfield 13, 3) := by decide +kernel
theorem dX9_audit_83 : decode cX9_audit 83 = .ok (.iconst 1, 1) := by decide +kernel
theorem dX9_audit_84 : decode cX9_audit 84 = .ok (.iaload, 1) := by decide +kernel
theorem dX9_audit_85 : decode cX9_audit 85 = .ok (.sipush 200, 3) := by decide +kernel
theorem dX9_audit_88 : decode cX9_audit 88 = .ok (.if_icmp .ne 10, 3) := by decide +kernel
theorem dX9_audit_91 : decode cX9_audit 91 = .ok (.aload_n 0, 1) := by decide +kernel
theorem dX9_audit_92 : decode cX9_audit 92 = .ok (.getfield 13, 3) := by decide +kernel
theorem dX9_audit_95 : decode cX9_audit 95 = .ok (.iconst 1, 1) := by decide +kernel
theorem dX9_audit_96 : decode cX9_audit 96 = .ok (.iaload, 1) := by decide +kernel
theorem dX9_audit_97 : decode cX9_audit 97 = .ok (.ireturn, 1) := by decide +kernel
theorem dX9_audit_98 : decode cX9_audit 98 = .ok (.aload_n 0, 1) := by decide +kernel
theorem dX9_audit_99 : decode cX9_audit 99 = .ok (.getfield 22, 3) := by decide +kernel
theorem dX9_audit_102 : decode cX9_audit 102 = .ok (.iconst 1, 1) := by decide +kernel
theorem dX9_audit_103 : decode cX9_audit 103 = .ok (.baload, 1) := by decide +kernel
theorem dX9_audit_104 : decode cX9_audit 104 = .ok (.ifCond .ne 17, 3) := by decide +kernel
theorem dX9_audit_107 : decode cX9_audit 107 = .ok (.aload_n 0, 1) := by decide +kernel
theorem dX9_audit_108 : decode cX9_audit 108 = .ok (.getfield 66, 3) := by decide +kernel
theorem dX9_audit_111 : decode cX9_audit 111 = .ok (.aload_n 0, 1) := by decide +kernel
theorem dX9_audit_112 : decode cX9_audit 112 = .ok (.getfield 422, 3) := by decide +kernel
theorem dX9_audit_115 : decode cX9_audit 115 = .ok (.iaload, 1) := by decide +kernel
theorem dX9_audit_116 : decode cX9_audit 116 = .ok (.bipush 7, 2) := by decide +kernel
theorem dX9_audit_118 : decode cX9_audit 118 = .ok (.if_icmp .ne 28, 3) := by decide +kernel
theorem dX9_audit_121 : decode cX9_audit 121 = .ok (.aload_n 0, 1) := by decide +kernel
theorem dX9_audit_122 : decode cX9_audit 122 = .ok (.getfield 22, 3) := by decide +kernel
theorem dX9_audit_125 : decode cX9_audit 125 = .ok (.iconst 1, 1) := by decide +kernel
theorem dX9_audit_126 : decode cX9_audit 126 = .ok (.baload, 1) := by decide +kernel
theorem dX9_audit_127 : decode cX9_audit 127 = .ok (.ifCond .eq 14, 3) := by decide +kernel
theorem dX9_audit_130 : decode cX9_audit 130 = .ok (.aload_n 0, 1) := by decide +kernel
theorem dX9_audit_131 : decode cX9_audit 131 = .ok (.invokevirtual 438, 3) := by decide +kernel
theorem dX9_audit_134 : decode cX9_audit 134 = .ok (.ifCond .eq 7, 3) := by decide +kernel
theorem dX9_audit_137 : decode cX9_audit 137 = .ok (.iconst 1, 1) := by decide +kernel
theorem dX9_audit_138 : decode cX9_audit 138 = .ok (.goto 4, 3) := by decide +kernel
theorem dX9_audit_141 : decode cX9_audit 141 = .ok (.iconst 0, 1) := by decide +kernel
theorem dX9_audit_142 : decode cX9_audit 142 = .ok (.istore_n 3, 1) := by decide +kernel
theorem dX9_audit_143 : decode cX9_audit 143 = .ok (.goto 32, 3) := by decide +kernel
theorem dX9_audit_146 : decode cX9_audit 146 = .ok (.aload_n 0, 1) := by decide +kernel
theorem dX9_audit_147 : decode cX9_audit 147 = .ok (.invokevirtual 441, 3) := by decide +kernel
theorem dX9_audit_150 : decode cX9_audit 150 = .ok (.ifCond .eq 23, 3) := by decide +kernel
theorem dX9_audit_153 : decode cX9_audit 153 = .ok (.aload_n 0, 1) := by decide +kernel
theorem dX9_audit_154 : decode cX9_audit 154 = .ok (.getfield 217, 3) := by decide +kernel
theorem dX9_audit_157 : decode cX9_audit 157 = .ok (.iconst 1, 1) := by decide +kernel
theorem dX9_audit_158 : decode cX9_audit 158 = .ok (.if_icmp .eq 11, 3) := by decide +kernel
theorem dX9_audit_161 : decode cX9_audit 161 = .ok (.aload_n 0, 1) := by decide +kernel
theorem dX9_audit_162 : decode cX9_audit 162 = .ok (.iconst 1, 1) := by decide +kernel
theorem dX9_audit_163 : decode cX9_audit 163 = .ok (.invokevirtual 295, 3) := by decide +kernel
theorem dX9_audit_166 : decode cX9_audit 166 = .ok (.ifCond .ne 7, 3) := by decide +kernel
theorem dX9_audit_169 : decode cX9_audit 169 = .ok (.iconst 1, 1) := by decide +kernel
theorem dX9_audit_170 : decode cX9_audit 170 = .ok (.goto 4, 3) := by decide +kernel
theorem dX9_audit_173 : decode cX9_audit 173 = .ok (.iconst 0, 1) := by decide +kernel
theorem dX9_audit_174 : decode cX9_audit 174 = .ok (.istore_n 3, 1) := by decide +kernel
theorem dX9_audit_175 : decode cX9_audit 175 = .ok (.iload_n 3, 1) := by decide +kernel
theorem dX9_audit_176 : decode cX9_audit 176 = .ok (.ifCond .ne 10, 3) := by decide +kernel
theorem dX9_audit_179 : decode cX9_audit 179 = .ok (.aload_n 0, 1) := by decide +kernel
theorem dX9_audit_180 : decode cX9_audit 180 = .ok (.getfield 13, 3) := by decide +kernel
theorem dX9_audit_183 : decode cX9_audit 183 = .ok (.iconst 1, 1) := by decide +kernel
theorem dX9_audit_184 : decode cX9_audit 184 = .ok (.iaload, 1) := by decide +kernel
theorem dX9_audit_185 : decode cX9_audit 185 = .ok (.ireturn, 1) := by decide +kernel
theorem dX9_audit_186 : decode cX9_audit 186 = .ok (.aload_n 0, 1) := by decide +kernel
theorem dX9_audit_187 : decode cX9_audit 187 = .ok (.iconst 1, 1) := by decide +kernel
theorem dX9_audit_188 : decode cX9_audit 188 = .ok (.invokevirtual 302, 3) := by decide +kernel
theorem dX9_audit_191 : decode cX9_audit 191 = .ok (.pop, 1) := by decide +kernel
theorem dX9_audit_192 : decode cX9_audit 192 = .ok (.aload_n 0, 1) := by decide +kernel
theorem dX9_audit_193 : decode cX9_audit 193 = .ok (.iload_n 2, 1) := by decide +kernel
theorem dX9_audit_194 : decode cX9_audit 194 = .ok (.putfield 422, 3) := by decide +kernel
theorem dX9_audit_197 : decode cX9_audit 197 = .ok (.aload_n 0, 1) := by decide +kernel
theorem dX9_audit_198 : decode cX9_audit 198 = .ok (.iload_n 1, 1) := by decide +kernel
theorem dX9_audit_199 : decode cX9_audit 199 = .ok (.invokevirtual 432, 3) := by decide +kernel
theorem dX9_audit_202 : decode cX9_audit 202 = .ok (.istore_n 1, 1) := by decide +kernel
theorem dX9_audit_203 : decode cX9_audit 203 = .ok (.goto (-157), 3) := by decide +kernel
theorem dX9_audit_206 : decode cX9_audit 206 = .ok (.aload_n 0, 1) := by decide +kernel
theorem dX9_audit_207 : decode cX9_audit 207 = .ok (.getfield 22, 3) := by decide +kernel
theorem dX9_audit_210 : decode cX9_audit 210 = .ok (.iconst 1, 1) := by decide +kernel
theorem dX9_audit_211 : decode cX9_audit 211 = .ok (.baload, 1) := by decide +kernel
theorem dX9_audit_212 : decode cX9_audit 212 = .ok (.ifCond .eq 10, 3) := by decide +kernel
theorem dX9_audit_215 : decode cX9_audit 215 = .ok (.aload_n 0, 1) := by decide +kernel
theorem dX9_audit_216 : decode cX9_audit 216 = .ok (.getfield 13, 3) := by decide +kernel
theorem dX9_audit_219 : decode cX9_audit 219 = .ok (.iconst 1, 1) := by decide +kernel
theorem dX9_audit_220 : decode cX9_audit 220 = .ok (.iaload, 1) := by decide +kernel
theorem dX9_audit_221 : decode cX9_audit 221 = .ok (.ireturn, 1) := by decide +kernel
theorem dX9_audit_222 : decode cX9_audit 222 = .ok (.iconst 0, 1) := by decide +kernel
theorem dX9_audit_223 : decode cX9_audit 223 = .ok (.istore_n 2, 1) := by decide +kernel
theorem dX9_audit_224 : decode cX9_audit 224 = .ok (.iload_n 2, 1) := by decide +kernel
theorem dX9_audit_225 : decode cX9_audit 225 = .ok (.aload_n 0, 1) := by decide +kernel
theorem dX9_audit_226 : decode cX9_audit 226 = .ok (.getfield 13, 3) := by decide +kernel
theorem dX9_audit_229 : decode cX9_audit 229 = .ok (.iconst 0, 1) := by decide +kernel
theorem dX9_audit_230 : decode cX9_audit 230 = .ok (.iaload, 1) := by decide +kernel
theorem dX9_audit_231 : decode cX9_audit 231 = .ok (.if_icmp .ge 58, 3) := by decide +kernel
theorem dX9_audit_234 : decode cX9_audit 234 = .ok (.iconst 0, 1) := by decide +kernel
theorem dX9_audit_235 : decode cX9_audit 235 = .ok (.istore_n 3, 1) := by decide +kernel
theorem dX9_audit_236 : decode cX9_audit 236 = .ok (.iload_n 3, 1) := by decide +kernel
theorem dX9_audit_237 : decode cX9_audit 237 = .ok (.aload_n 0, 1) := by decide +kernel
theorem dX9_audit_238 : decode cX9_audit 238 = .ok (.getfield 75, 3) := by decide +kernel
theorem dX9_audit_241 : decode cX9_audit 241 = .ok (.iload_n 2, 1) := by decide +kernel
theorem dX9_audit_242 : decode cX9_audit 242 = .ok (.iaload, 1) := by decide +kernel
theorem dX9_audit_243 : decode cX9_audit 243 = .ok (.if_icmp .ge 40, 3) := by decide +kernel
theorem dX9_audit_246 : decode cX9_audit 246 = .ok (.aload_n 0, 1) := by decide +kernel
theorem dX9_audit_247 : decode cX9_audit 247 = .ok (.getfield 66, 3) := by decide +kernel
theorem dX9_audit_250 : decode cX9_audit 250 = .ok (.aload_n 0, 1) := by decide +kernel
theorem dX9_audit_251 : decode cX9_audit 251 = .ok (.getfield 72, 3) := by decide +kernel
theorem dX9_audit_254 : decode cX9_audit 254 = .ok (.iload_n 2, 1) := by decide +kernel
theorem dX9_audit_255 : decode cX9_audit 255 = .ok (.iaload, 1) := by decide +kernel
theorem dX9_audit_256 : decode cX9_audit 256 = .ok (.iload_n 3, 1) := by decide +kernel
theorem dX9_audit_257 : decode cX9_audit 257 = .ok (.iadd, 1) := by decide +kernel
theorem dX9_audit_258 : decode cX9_audit 258 = .ok (.iaload, 1) := by decide +kernel
theorem dX9_audit_259 : decode cX9_audit 259 = .ok (.aload_n 0, 1) := by decide +kernel
theorem dX9_audit_260 : decode cX9_audit 260 = .ok (.getfield 69, 3) := by decide +kernel
theorem dX9_audit_263 : decode cX9_audit 263 = .ok (.aload_n 0, 1) := by decide +kernel
theorem dX9_audit_264 : decode cX9_audit 264 = .ok (.getfield 72, 3) := by decide +kernel
theorem dX9_audit_267 : decode cX9_audit 267 = .ok (.iload_n 2, 1) := by decide +kernel
theorem dX9_audit_268 : decode cX9_audit 268 = .ok (.iaload, 1) := by decide +kernel
theorem dX9_audit_269 : decode cX9_audit 269 = .ok (.iload_n 3, 1) := by decide +kernel
theorem dX9_audit_270 : decode cX9_audit 270 = .ok (.iadd, 1) := by decide +kernel
theorem dX9_audit_271 : decode cX9_audit 271 = .ok (.iaload, 1) := by decide +kernel
theorem dX9_audit_272 : decode cX9_audit 272 = .ok (.if_icmp .eq 5, 3) := by decide +kernel
theorem dX9_audit_275 : decode cX9_audit 275 = .ok (.iload_n 2, 1) := by decide +kernel
theorem dX9_audit_276 : decode cX9_audit 276 = .ok (.ireturn, 1) := by decide +kernel
theorem dX9_audit_277 : decode cX9_audit 277 = .ok (.iinc 3 1, 3) := by decide +kernel
theorem dX9_audit_280 : decode cX9_audit 280 = .ok (.goto (-44), 3) := by decide +kernel
theorem dX9_audit_283 : decode cX9_audit 283 = .ok (.iinc 2 1, 3) := by decide +kernel
theorem dX9_audit_286 : decode cX9_audit 286 = .ok (.goto (-62), 3) := by decide +kernel
theorem dX9_audit_289 : decode cX9_audit 289 = .ok (.iconst (-1), 1) := by decide +kernel
theorem dX9_audit_290 : decode cX9_audit 290 = .ok (.ireturn, 1) := by decide +kernel
theorem dX9_altered_0 : decode cX9_altered 0 = .ok (.iconst 0, 1) := by decide +kernel
theorem dX9_altered_1 : decode cX9_altered 1 = .ok (.istore_n 1, 1) := by decide +kernel
theorem dX9_altered_2 : decode cX9_altered 2 = .ok (.iconst 0, 1) := by decide +kernel
theorem dX9_altered_3 : decode cX9_altered 3 = .ok (.istore_n 2, 1) := by decide +kernel
theorem dX9_altered_4 : decode cX9_altered 4 = .ok (.iload_n 2, 1) := by decide +kernel
theorem dX9_altered_5 : decode cX9_altered 5 = .ok (.aload_n 0, 1) := by decide +kernel
theorem dX9_altered_6 : decode cX9_altered 6 = .ok (.getfield 285, 3) := by decide +kernel
theorem dX9_altered_9 : decode cX9_altered 9 = .ok (.if_icmp .ge 32, 3) := by decide +kernel
theorem dX9_altered_12 : decode cX9_altered 12 = .ok (.iload_n 1, 1) := by decide +kernel
theorem dX9_altered_13 : decode cX9_altered 13 = .ok (.aload_n 0, 1) := by decide +kernel
theorem dX9_altered_14 : decode cX9_altered 14 = .ok (.getfield 66, 3) := by decide +kernel
theorem dX9_altered_17 : decode cX9_altered 17 = .ok (.iload_n 2, 1) := by decide +kernel
theorem dX9_altered_18 : decode cX9_altered 18 = .ok (.iaload, 1) := by decide +kernel
theorem dX9_altered_19 : decode cX9_altered 19 = .ok (.aload_n 0, 1) := by decide +kernel
theorem dX9_altered_20 : decode cX9_altered 20 = .ok (.getfield 69, 3) := by decide +kernel
theorem dX9_altered_23 : decode cX9_altered 23 = .ok (.iload_n 2, 1) := by decide +kernel
theorem dX9_altered_24 : decode cX9_altered 24 = .ok (.iaload, 1) := by decide +kernel
theorem dX9_altered_25 : decode cX9_altered 25 = .ok (.if_icmp .ne 7, 3) := by decide +kernel
theorem dX9_altered_28 : decode cX9_altered 28 = .ok (.iconst 0, 1) := by decide +kernel
theorem dX9_altered_29 : decode cX9_altered 29 = .ok (.goto 4, 3) := by decide +kernel
theorem dX9_altered_32 : decode cX9_altered 32 = .ok (.iconst 1, 1) := by decide +kernel
theorem dX9_altered_33 : decode cX9_altered 33 = .ok (.iadd, 1) := by decide +kernel
theorem dX9_altered_34 : decode cX9_altered 34 = .ok (.istore_n 1, 1) := by decide +kernel
theorem dX9_altered_35 : decode cX9_altered 35 = .ok (.iinc 2 1, 3) := by decide +kernel
theorem dX9_altered_38 : decode cX9_altered 38 = .ok (.goto (-34), 3) := by decide +kernel
theorem dX9_altered_41 : decode cX9_altered 41 = .ok (.iload_n 1, 1) := by decide +kernel
theorem dX9_altered_42 : decode cX9_altered 42 = .ok (.ireturn, 1) := by decide +kernel
theorem dX9_there_0 : decode cX9_there 0 = .ok (.iconst 0, 1) := by decide +kernel
theorem dX9_there_1 : decode cX9_there 1 = .ok (.istore_n 1, 1) := by decide +kernel
theorem dX9_there_2 : decode cX9_there 2 = .ok (.iconst 0, 1) := by decide +kernel
theorem dX9_there_3 : decode cX9_there 3 = .ok (.istore_n 2, 1) := by decide +kernel
theorem dX9_there_4 : decode cX9_there 4 = .ok (.iload_n 2, 1) := by decide +kernel
theorem dX9_there_5 : decode cX9_there 5 = .ok (.aload_n 0, 1) := by decide +kernel
theorem dX9_there_6 : decode cX9_there 6 = .ok (.getfield 13, 3) := by decide +kernel
theorem dX9_there_9 : decode cX9_there 9 = .ok (.iconst 0, 1) := by decide +kernel
theorem dX9_there_10 : decode cX9_there 10 = .ok (.iaload, 1) := by decide +kernel
theorem dX9_there_11 : decode cX9_there 11 = .ok (.if_icmp .ge 26, 3) := by decide +kernel
theorem dX9_there_14 : decode cX9_there 14 = .ok (.iload_n 1, 1) := by decide +kernel
theorem dX9_there_15 : decode cX9_there 15 = .ok (.aload_n 0, 1) := by decide +kernel
theorem dX9_there_16 : decode cX9_there 16 = .ok (.getfield 60, 3) := by decide +kernel
theorem dX9_there_19 : decode cX9_there 19 = .ok (.iload_n 2, 1) := by decide +kernel
theorem dX9_there_20 : decode cX9_there 20 = .ok (.baload, 1) := by decide +kernel
theorem dX9_there_21 : decode cX9_there 21 = .ok (.ifCond .eq 7, 3) := by decide +kernel
theorem dX9_there_24 : decode cX9_there 24 = .ok (.iconst 1, 1) := by decide +kernel
theorem dX9_there_25 : decode cX9_there 25 = .ok (.goto 4, 3) := by decide +kernel
theorem dX9_there_28 : decode cX9_there 28 = .ok (.iconst 0, 1) := by decide +kernel
theorem dX9_there_29 : decode cX9_there 29 = .ok (.iadd, 1) := by decide +kernel
theorem dX9_there_30 : decode cX9_there 30 = .ok (.istore_n 1, 1) := by decide +kernel
theorem dX9_there_31 : decode cX9_there 31 = .ok (.iinc 2 1, 3) := by decide +kernel
theorem dX9_there_34 : decode cX9_there 34 = .ok (.goto (-30), 3) := by decide +kernel
theorem dX9_there_37 : decode cX9_there 37 = .ok (.iload_n 1, 1) := by decide +kernel
theorem dX9_there_38 : decode cX9_there 38 = .ok (.ireturn, 1) := by decide +kernel
theorem dX9_count_0 : decode cX9_count 0 = .ok (.iload_n 1, 1) := by decide +kernel
theorem dX9_count_1 : decode cX9_count 1 = .ok (.tableswitch 95 0 7 #[47, 54, 61, 66, 71, 78, 85, 90], 47) := by decide +kernel
theorem dX9_count_48 : decode cX9_count 48 = .ok (.aload_n 0, 1) := by decide +kernel
theorem dX9_count_49 : decode cX9_count 49 = .ok (.getfield 7, 3) := by decide +kernel
theorem dX9_count_52 : decode cX9_count 52 = .ok (.iconst 0, 1) := by decide +kernel
theorem dX9_count_53 : decode cX9_count 53 = .ok (.iaload, 1) := by decide +kernel
theorem dX9_count_54 : decode cX9_count 54 = .ok (.ireturn, 1) := by decide +kernel
theorem dX9_count_55 : decode cX9_count 55 = .ok (.aload_n 0, 1) := by decide +kernel
theorem dX9_count_56 : decode cX9_count 56 = .ok (.getfield 13, 3) := by decide +kernel
theorem dX9_count_59 : decode cX9_count 59 = .ok (.iconst 0, 1) := by decide +kernel
theorem dX9_count_60 : decode cX9_count 60 = .ok (.iaload, 1) := by decide +kernel
theorem dX9_count_61 : decode cX9_count 61 = .ok (.ireturn, 1) := by decide +kernel
theorem dX9_count_62 : decode cX9_count 62 = .ok (.aload_n 0, 1) := by decide +kernel
theorem dX9_count_63 : decode cX9_count 63 = .ok (.getfield 285, 3) := by decide +kernel
theorem dX9_count_66 : decode cX9_count 66 = .ok (.ireturn, 1) := by decide +kernel
theorem dX9_count_67 : decode cX9_count 67 = .ok (.aload_n 0, 1) := by decide +kernel
theorem dX9_count_68 : decode cX9_count 68 = .ok (.invokevirtual 444, 3) := by decide +kernel
theorem dX9_count_71 : decode cX9_count 71 = .ok (.ireturn, 1) := by decide +kernel
theorem dX9_count_72 : decode cX9_count 72 = .ok (.aload_n 0, 1) := by decide +kernel
theorem dX9_count_73 : decode cX9_count 73 = .ok (.getfield 16, 3) := by decide +kernel
theorem dX9_count_76 : decode cX9_count 76 = .ok (.iconst 0, 1) := by decide +kernel
theorem dX9_count_77 : decode cX9_count 77 = .ok (.iaload, 1) := by decide +kernel
theorem dX9_count_78 : decode cX9_count 78 = .ok (.ireturn, 1) := by decide +kernel
theorem dX9_count_79 : decode cX9_count 79 = .ok (.aload_n 0, 1) := by decide +kernel
theorem dX9_count_80 : decode cX9_count 80 = .ok (.getfield 19, 3) := by decide +kernel
theorem dX9_count_83 : decode cX9_count 83 = .ok (.iconst 0, 1) := by decide +kernel
theorem dX9_count_84 : decode cX9_count 84 = .ok (.iaload, 1) := by decide +kernel
theorem dX9_count_85 : decode cX9_count 85 = .ok (.ireturn, 1) := by decide +kernel
theorem dX9_count_86 : decode cX9_count 86 = .ok (.aload_n 0, 1) := by decide +kernel
theorem dX9_count_87 : decode cX9_count 87 = .ok (.getfield 308, 3) := by decide +kernel
theorem dX9_count_90 : decode cX9_count 90 = .ok (.ireturn, 1) := by decide +kernel
theorem dX9_count_91 : decode cX9_count 91 = .ok (.aload_n 0, 1) := by decide +kernel
theorem dX9_count_92 : decode cX9_count 92 = .ok (.invokevirtual 447, 3) := by decide +kernel
theorem dX9_count_95 : decode cX9_count 95 = .ok (.ireturn, 1) := by decide +kernel
theorem dX9_count_96 : decode cX9_count 96 = .ok (.iconst (-1), 1) := by decide +kernel
theorem dX9_count_97 : decode cX9_count 97 = .ok (.ireturn, 1) := by decide +kernel
theorem dJ9_max_7cf53_0 : decode cJ9_max_7cf53 0 = .ok (.iload_n 0, 1) := by decide +kernel
theorem dJ9_max_7cf53_1 : decode cJ9_max_7cf53 1 = .ok (.iload_n 1, 1) := by decide +kernel
theorem dJ9_max_7cf53_2 : decode cJ9_max_7cf53 2 = .ok (.if_icmp .lt 7, 3) := by decide +kernel
theorem dJ9_max_7cf53_5 : decode cJ9_max_7cf53 5 = .ok (.iload_n 0, 1) := by decide +kernel
theorem dJ9_max_7cf53_6 : decode cJ9_max_7cf53 6 = .ok (.goto 4, 3) := by decide +kernel
theorem dJ9_max_7cf53_9 : decode cJ9_max_7cf53 9 = .ok (.iload_n 1, 1) := by decide +kernel
theorem dJ9_max_7cf53_10 : decode cJ9_max_7cf53 10 = .ok (.ireturn, 1) := by decide +kernel
theorem dJ9_min_7cf53_0 : decode cJ9_min_7cf53 0 = .ok (.iload_n 0, 1) := by decide +kernel
theorem dJ9_min_7cf53_1 : decode cJ9_min_7cf53 1 = .ok (.iload_n 1, 1) := by decide +kernel
theorem dJ9_min_7cf53_2 : decode cJ9_min_7cf53 2 = .ok (.if_icmp .gt 7, 3) := by decide +kernel
theorem dJ9_min_7cf53_5 : decode cJ9_min_7cf53 5 = .ok (.iload_n 0, 1) := by decide +kernel
theorem dJ9_min_7cf53_6 : decode cJ9_min_7cf53 6 = .ok (.goto 4, 3) := by decide +kernel
theorem dJ9_min_7cf53_9 : decode cJ9_min_7cf53 9 = .ok (.iload_n 1, 1) := by decide +kernel
theorem dJ9_min_7cf53_10 : decode cJ9_min_7cf53 10 = .ok (.ireturn, 1) := by decide +kernel
theorem dL_law_0 : decode cL_law 0 = .ok (.new 7, 3) := by decide +kernel
theorem dL_law_3 : decode cL_law 3 = .ok (.dup, 1) := by decide +kernel
theorem dL_law_4 : decode cL_law 4 = .ok (.invokespecial 9, 3) := by decide +kernel
theorem dL_law_7 : decode cL_law 7 = .ok (.astore_n 1, 1) := by decide +kernel
theorem dL_law_8 : decode cL_law 8 = .ok (.new 10, 3) := by decide +kernel
theorem dL_law_11 : decode cL_law 11 = .ok (.dup, 1) := by decide +kernel
theorem dL_law_12 : decode cL_law 12 = .ok (.invokespecial 12, 3) := by decide +kernel
theorem dL_law_15 : decode cL_law 15 = .ok (.astore_n 2, 1) := by decide +kernel
theorem dL_law_16 : decode cL_law 16 = .ok (.iconst 0, 1) := by decide +kernel
theorem dL_law_17 : decode cL_law 17 = .ok (.istore_n 3, 1) := by decide +kernel
theorem dL_law_18 : decode cL_law 18 = .ok (.iload_n 3, 1) := by decide +kernel
theorem dL_law_19 : decode cL_law 19 = .ok (.aload_n 0, 1) := by decide +kernel
theorem dL_law_20 : decode cL_law 20 = .ok (.arraylength, 1) := by decide +kernel
theorem dL_law_21 : decode cL_law 21 = .ok (.bipush 7, 2) := by decide +kernel
theorem dL_law_23 : decode cL_law 23 = .ok (.isub, 1) := by decide +kernel
theorem dL_law_24 : decode cL_law 24 = .ok (.if_icmp .gt 1008, 3) := by decide +kernel
theorem dL_law_27 : decode cL_law 27 = .ok (.aload_n 0, 1) := by decide +kernel
theorem dL_law_28 : decode cL_law 28 = .ok (.iload_n 3, 1) := by decide +kernel
theorem dL_law_29 : decode cL_law 29 = .ok (.iaload, 1) := by decide +kernel
theorem dL_law_30 : decode cL_law 30 = .ok (.bipush 31, 2) := by decide +kernel
theorem dL_law_32 : decode cL_law 32 = .ok (.iand, 1) := by decide +kernel
theorem dL_law_33 : decode cL_law 33 = .ok (.tableswitch 993 0 21 #[103, 156, 219, 232, 285, 388, 411, 526, 589, 612, 646, 680, 703, 736, 779, 802, 825, 858, 891, 924, 957, 970], 103) := by decide +kernel
theorem dL_law_136 : decode cL_law 136 = .ok (.aload_n 1, 1) := by decide +kernel
theorem dL_law_137 : decode cL_law 137 = .ok (.aload_n 0, 1) := by decide +kernel
theorem dL_law_138 : decode cL_law 138 = .ok (.iload_n 3, 1) := by decide +kernel
theorem dL_law_139 : decode cL_law 139 = .ok (.iconst 1, 1) := by decide +kernel
theorem dL_law_140 : decode cL_law 140 = .ok (.iadd, 1) := by decide +kernel
theorem dL_law_141 : decode cL_law 141 = .ok (.iaload, 1) := by decide +kernel
theorem dL_law_142 : decode cL_law 142 = .ok (.i2l, 1) := by decide +kernel
theorem dL_law_143 : decode cL_law 143 = .ok (.bipush 32, 2) := by decide +kernel
theorem dL_law_145 : decode cL_law 145 = .ok (.lshl, 1) := by decide +kernel
theorem dL_law_146 : decode cL_law 146 = .ok (.aload_n 0, 1) := by decide +kernel
theorem dL_law_147 : decode cL_law 147 = .ok (.iload_n 3, 1) := by decide +kernel
theorem dL_law_148 : decode cL_law 148 = .ok (.iconst 2, 1) := by decide +kernel
theorem dL_law_149 : decode cL_law 149 = .ok (.iadd, 1) := by decide +kernel
theorem dL_law_150 : decode cL_law 150 = .ok (.iaload, 1) := by decide +kernel
theorem dL_law_151 : decode cL_law 151 = .ok (.i2l, 1) := by decide +kernel
theorem dL_law_152 : decode cL_law 152 = .ok (.ldc2_w 13, 3) := by decide +kernel
theorem dL_law_155 : decode cL_law 155 = .ok (.land, 1) := by decide +kernel
theorem dL_law_156 : decode cL_law 156 = .ok (.lor, 1) := by decide +kernel
theorem dL_law_157 : decode cL_law 157 = .ok (.invokevirtual 15, 3) := by decide +kernel
theorem dL_law_160 : decode cL_law 160 = .ok (.aload_n 2, 1) := by decide +kernel
theorem dL_law_161 : decode cL_law 161 = .ok (.aload_n 0, 1) := by decide +kernel
theorem dL_law_162 : decode cL_law 162 = .ok (.iload_n 3, 1) := by decide +kernel
theorem dL_law_163 : decode cL_law 163 = .ok (.iconst 1, 1) := by decide +kernel
theorem dL_law_164 : decode cL_law 164 = .ok (.iadd, 1) := by decide +kernel
theorem dL_law_165 : decode cL_law 165 = .ok (.iaload, 1) := by decide +kernel
theorem dL_law_166 : decode cL_law 166 = .ok (.i2l, 1) := by decide +kernel
theorem dL_law_167 : decode cL_law 167 = .ok (.bipush 32, 2) := by decide +kernel
theorem dL_law_169 : decode cL_law 169 = .ok (.lshl, 1) := by decide +kernel
theorem dL_law_170 : decode cL_law 170 = .ok (.aload_n 0, 1) := by decide +kernel
theorem dL_law_171 : decode cL_law 171 = .ok (.iload_n 3, 1) := by decide +kernel
theorem dL_law_172 : decode cL_law 172 = .ok (.iconst 2, 1) := by decide +kernel
theorem dL_law_173 : decode cL_law 173 = .ok (.iadd, 1) := by decide +kernel
theorem dL_law_174 : decode cL_law 174 = .ok (.iaload, 1) := by decide +kernel
theorem dL_law_175 : decode cL_law 175 = .ok (.i2l, 1) := by decide +kernel
theorem dL_law_176 : decode cL_law 176 = .ok (.ldc2_w 13, 3) := by decide +kernel
theorem dL_law_179 : decode cL_law 179 = .ok (.land, 1) := by decide +kernel
theorem dL_law_180 : decode cL_law 180 = .ok (.lor, 1) := by decide +kernel
theorem dL_law_181 : decode cL_law 181 = .ok (.invokevirtual 19, 3) := by decide +kernel
theorem dL_law_184 : decode cL_law 184 = .ok (.if_icmp .eq 842, 3) := by decide +kernel
theorem dL_law_187 : decode cL_law 187 = .ok (.iconst 0, 1) := by decide +kernel
theorem dL_law_188 : decode cL_law 188 = .ok (.ireturn, 1) := by decide +kernel
theorem dL_law_189 : decode cL_law 189 = .ok (.aload_n 1, 1) := by decide +kernel
theorem dL_law_190 : decode cL_law 190 = .ok (.aload_n 0, 1) := by decide +kernel
theorem dL_law_191 : decode cL_law 191 = .ok (.iload_n 3, 1) := by decide +kernel
theorem dL_law_192 : decode cL_law 192 = .ok (.iconst 1, 1) := by decide +kernel
theorem dL_law_193 : decode cL_law 193 = .ok (.iadd, 1) := by decide +kernel
theorem dL_law_194 : decode cL_law 194 = .ok (.iaload, 1) := by decide +kernel
theorem dL_law_195 : decode cL_law 195 = .ok (.aload_n 0, 1) := by decide +kernel
theorem dL_law_196 : decode cL_law 196 = .ok (.iload_n 3, 1) := by decide +kernel
theorem dL_law_197 : decode cL_law 197 = .ok (.iconst 2, 1) := by decide +kernel
theorem dL_law_198 : decode cL_law 198 = .ok (.iadd, 1) := by decide +kernel
theorem dL_law_199 : decode cL_law 199 = .ok (.iaload, 1) := by decide +kernel
theorem dL_law_200 : decode cL_law 200 = .ok (.i2l, 1) := by decide +kernel
theorem dL_law_201 : decode cL_law 201 = .ok (.bipush 32, 2) := by decide +kernel
theorem dL_law_203 : decode cL_law 203 = .ok (.lshl, 1) := by decide +kernel
theorem dL_law_204 : decode cL_law 204 = .ok (.aload_n 0, 1) := by decide +kernel
theorem dL_law_205 : decode cL_law 205 = .ok (.iload_n 3, 1) := by decide +kernel
theorem dL_law_206 : decode cL_law 206 = .ok (.iconst 3, 1) := by decide +kernel
theorem dL_law_207 : decode cL_law 207 = .ok (.iadd, 1) := by decide +kernel
theorem dL_law_208 : decode cL_law 208 = .ok (.iaload, 1) := by decide +kernel
theorem dL_law_209 : decode cL_law 209 = .ok (.i2l, 1) := by decide +kernel
theorem dL_law_210 : decode cL_law 210 = .ok (.ldc2_w 13, 3) := by decide +kernel
theorem dL_law_213 : decode cL_law 213 = .ok (.land, 1) := by decide +kernel
theorem dL_law_214 : decode cL_law 214 = .ok (.lor, 1) := by decide +kernel
theorem dL_law_215 : decode cL_law 215 = .ok (.invokevirtual 20, 3) := by decide +kernel
theorem dL_law_218 : decode cL_law 218 = .ok (.aload_n 2, 1) := by decide +kernel
theorem dL_law_219 : decode cL_law 219 = .ok (.aload_n 0, 1) := by decide +kernel
theorem dL_law_220 : decode cL_law 220 = .ok (.iload_n 3, 1) := by decide +kernel
theorem dL_law_221 : decode cL_law 221 = .ok (.iconst 1, 1) := by decide +kernel
theorem dL_law_222 : decode cL_law 222 = .ok (.iadd, 1) := by decide +kernel
theorem dL_law_223 : decode cL_law 223 = .ok (.iaload, 1) := by decide +kernel
theorem dL_law_224 : decode cL_law 224 = .ok (.aload_n 0, 1) := by decide +kernel
theorem dL_law_225 : decode cL_law 225 = .ok (.iload_n 3, 1) := by decide +kernel
theorem dL_law_226 : decode cL_law 226 = .ok (.iconst 2, 1) := by decide +kernel
theorem dL_law_227 : decode cL_law 227 = .ok (.iadd, 1) := by decide +kernel
theorem dL_law_228 : decode cL_law 228 = .ok (.iaload, 1) := by decide +kernel
theorem dL_law_229 : decode cL_law 229 = .ok (.i2l, 1) := by decide +kernel
theorem dL_law_230 : decode cL_law 230 = .ok (.bipush 32, 2) := by decide +kernel
theorem dL_law_232 : decode cL_law 232 = .ok (.lshl, 1) := by decide +kernel
theorem dL_law_233 : decode cL_law 233 = .ok (.aload_n 0, 1) := by decide +kernel
theorem dL_law_234 : decode cL_law 234 = .ok (.iload_n 3, 1) := by decide +kernel
theorem dL_law_235 : decode cL_law 235 = .ok (.iconst 3, 1) := by decide +kernel
theorem dL_law_236 : decode cL_law 236 = .ok (.iadd, 1) := by decide +kernel
theorem dL_law_237 : decode cL_law 237 = .ok (.iaload, 1) := by decide +kernel
theorem dL_law_238 : decode cL_law 238 = .ok (.i2l, 1) := by decide +kernel
theorem dL_law_239 : decode cL_law 239 = .ok (.ldc2_w 13, 3) := by decide +kernel
theorem dL_law_242 : decode cL_law 242 = .ok (.land, 1) := by decide +kernel
theorem dL_law_243 : decode cL_law 243 = .ok (.lor, 1) := by decide +kernel
theorem dL_law_244 : decode cL_law 244 = .ok (.invokevirtual 24, 3) := by decide +kernel
theorem dL_law_247 : decode cL_law 247 = .ok (.if_icmp .eq 779, 3) := by decide +kernel
theorem dL_law_250 : decode cL_law 250 = .ok (.iconst 0, 1) := by decide +kernel
theorem dL_law_251 : decode cL_law 251 = .ok (.ireturn, 1) := by decide +kernel
theorem dL_law_252 : decode cL_law 252 = .ok (.aload_n 1, 1) := by decide +kernel
theorem dL_law_253 : decode cL_law 253 = .ok (.invokevirtual 25, 3) := by decide +kernel
theorem dL_law_256 : decode cL_law 256 = .ok (.aload_n 2, 1) := by decide +kernel
theorem dL_law_257 : decode cL_law 257 = .ok (.invokevirtual 29, 3) := by decide +kernel
theorem dL_law_260 : decode cL_law 260 = .ok (.if_icmp .eq 766, 3) := by decide +kernel
theorem dL_law_263 : decode cL_law 263 = .ok (.iconst 0, 1) := by decide +kernel
theorem dL_law_264 : decode cL_law 264 = .ok (.ireturn, 1) := by decide +kernel
theorem dL_law_265 : decode cL_law 265 = .ok (.aload_n 1, 1) := by decide +kernel
theorem dL_law_266 : decode cL_law 266 = .ok (.aload_n 0, 1) := by decide +kernel
theorem dL_law_267 : decode cL_law 267 = .ok (.iload_n 3, 1) := by decide +kernel
theorem dL_law_268 : decode cL_law 268 = .ok (.iconst 1, 1) := by decide +kernel
theorem dL_law_269 : decode cL_law 269 = .ok (.iadd, 1) := by decide +kernel
theorem dL_law_270 : decode cL_law 270 = .ok (.iaload, 1) := by decide +kernel
theorem dL_law_271 : decode cL_law 271 = .ok (.i2l, 1) := by decide +kernel
theorem dL_law_272 : decode cL_law 272 = .ok (.bipush 32, 2) := by decide +kernel
theorem dL_law_274 : decode cL_law 274 = .ok (.lshl, 1) := by decide +kernel
theorem dL_law_275 : decode cL_law 275 = .ok (.aload_n 0, 1) := by decide +kernel
theorem dL_law_276 : decode cL_law 276 = .ok (.iload_n 3, 1) := by decide +kernel
theorem dL_law_277 : decode cL_law 277 = .ok (.iconst 2, 1) := by decide +kernel
theorem dL_law_278 : decode cL_law 278 = .ok (.iadd, 1) := by decide +kernel
theorem dL_law_279 : decode cL_law 279 = .ok (.iaload, 1) := by decide +kernel
theorem dL_law_280 : decode cL_law 280 = .ok (.i2l, 1) := by decide +kernel
theorem dL_law_281 : decode cL_law 281 = .ok (.ldc2_w 13, 3) := by decide +kernel
theorem dL_law_284 : decode cL_law 284 = .ok (.land, 1) := by decide +kernel
theorem dL_law_285 : decode cL_law 285 = .ok (.lor, 1) := by decide +kernel
theorem dL_law_286 : decode cL_law 286 = .ok (.invokevirtual 30, 3) := by decide +kernel
theorem dL_law_289 : decode cL_law 289 = .ok (.aload_n 2, 1) := by decide +kernel
theorem dL_law_290 : decode cL_law 290 = .ok (.aload_n 0, 1) := by decide +kernel
theorem dL_law_291 : decode cL_law 291 = .ok (.iload_n 3, 1) := by decide +kernel
theorem dL_law_292 : decode cL_law 292 = .ok (.iconst 1, 1) := by decide +kernel
theorem dL_law_293 : decode cL_law 293 = .ok (.iadd, 1) := by decide +kernel
theorem dL_law_294 : decode cL_law 294 = .ok (.iaload, 1) := by decide +kernel
theorem dL_law_295 : decode cL_law 295 = .ok (.i2l, 1) := by decide +kernel
theorem dL_law_296 : decode cL_law 296 = .ok (.bipush 32, 2) := by decide +kernel
theorem dL_law_298 : decode cL_law 298 = .ok (.lshl, 1) := by decide +kernel
theorem dL_law_299 : decode cL_law 299 = .ok (.aload_n 0, 1) := by decide +kernel
theorem dL_law_300 : decode cL_law 300 = .ok (.iload_n 3, 1) := by decide +kernel
theorem dL_law_301 : decode cL_law 301 = .ok (.iconst 2, 1) := by decide +kernel
theorem dL_law_302 : decode cL_law 302 = .ok (.iadd, 1) := by decide +kernel
theorem dL_law_303 : decode cL_law 303 = .ok (.iaload, 1) := by decide +kernel
theorem dL_law_304 : decode cL_law 304 = .ok (.i2l, 1) := by decide +kernel
theorem dL_law_305 : decode cL_law 305 = .ok (.ldc2_w 13, 3) := by decide +kernel
theorem dL_law_308 : decode cL_law 308 = .ok (.land, 1) := by decide +kernel
theorem dL_law_309 : decode cL_law 309 = .ok (.lor, 1) := by decide +kernel
theorem dL_law_310 : decode cL_law 310 = .ok (.invokevirtual 33, 3) := by decide +kernel
theorem dL_law_313 : decode cL_law 313 = .ok (.if_icmp .eq 713, 3) := by decide +kernel
theorem dL_law_316 : decode cL_law 316 = .ok (.iconst 0, 1) := by decide +kernel
theorem dL_law_317 : decode cL_law 317 = .ok (.ireturn, 1) := by decide +kernel
theorem dL_law_318 : decode cL_law 318 = .ok (.aload_n 1, 1) := by decide +kernel
theorem dL_law_319 : decode cL_law 319 = .ok (.aload_n 0, 1) := by decide +kernel
theorem dL_law_320 : decode cL_law 320 = .ok (.iload_n 3, 1) := by decide +kernel
theorem dL_law_321 : decode cL_law 321 = .ok (.iconst 1, 1) := by decide +kernel
theorem dL_law_322 : decode cL_law 322 = .ok (.iadd, 1) := by decide +kernel
theorem dL_law_323 : decode cL_law 323 = .ok (.iaload, 1) := by decide +kernel
theorem dL_law_324 : decode cL_law 324 = .ok (.i2l, 1) := by decide +kernel
theorem dL_law_325 : decode cL_law 325 = .ok (.bipush 32, 2) := by decide +kernel
theorem dL_law_327 : decode cL_law 327 = .ok (.lshl, 1) := by decide +kernel
theorem dL_law_328 : decode cL_law 328 = .ok (.aload_n 0, 1) := by decide +kernel
theorem dL_law_329 : decode cL_law 329 = .ok (.iload_n 3, 1) := by decide +kernel
theorem dL_law_330 : decode cL_law 330 = .ok (.iconst 2, 1) := by decide +kernel
theorem dL_law_331 : decode cL_law 331 = .ok (.iadd, 1) := by decide +kernel
theorem dL_law_332 : decode cL_law 332 = .ok (.iaload, 1) := by decide +kernel
theorem dL_law_333 : decode cL_law 333 = .ok (.i2l, 1) := by decide +kernel
theorem dL_law_334 : decode cL_law 334 = .ok (.ldc2_w 13, 3) := by decide +kernel
theorem dL_law_337 : decode cL_law 337 = .ok (.land, 1) := by decide +kernel
theorem dL_law_338 : decode cL_law 338 = .ok (.lor, 1) := by decide +kernel
theorem dL_law_339 : decode cL_law 339 = .ok (.aload_n 0, 1) := by decide +kernel
theorem dL_law_340 : decode cL_law 340 = .ok (.iload_n 3, 1) := by decide +kernel
theorem dL_law_341 : decode cL_law 341 = .ok (.iconst 3, 1) := by decide +kernel
theorem dL_law_342 : decode cL_law 342 = .ok (.iadd, 1) := by decide +kernel
theorem dL_law_343 : decode cL_law 343 = .ok (.iaload, 1) := by decide +kernel
theorem dL_law_344 : decode cL_law 344 = .ok (.aload_n 0, 1) := by decide +kernel
theorem dL_law_345 : decode cL_law 345 = .ok (.iload_n 3, 1) := by decide +kernel
theorem dL_law_346 : decode cL_law 346 = .ok (.iconst 4, 1) := by decide +kernel
theorem dL_law_347 : decode cL_law 347 = .ok (.iadd, 1) := by decide +kernel
theorem dL_law_348 : decode cL_law 348 = .ok (.iaload, 1) := by decide +kernel
theorem dL_law_349 : decode cL_law 349 = .ok (.i2l, 1) := by decide +kernel
theorem dL_law_350 : decode cL_law 350 = .ok (.bipush 32, 2) := by decide +kernel
theorem dL_law_352 : decode cL_law 352 = .ok (.lshl, 1) := by decide +kernel
theorem dL_law_353 : decode cL_law 353 = .ok (.aload_n 0, 1) := by decide +kernel
theorem dL_law_354 : decode cL_law 354 = .ok (.iload_n 3, 1) := by decide +kernel
theorem dL_law_355 : decode cL_law 355 = .ok (.iconst 5, 1) := by decide +kernel
theorem dL_law_356 : decode cL_law 356 = .ok (.iadd, 1) := by decide +kernel
theorem dL_law_357 : decode cL_law 357 = .ok (.iaload, 1) := by decide +kernel
theorem dL_law_358 : decode cL_law 358 = .ok (.i2l, 1) := by decide +kernel
theorem dL_law_359 : decode cL_law 359 = .ok (.ldc2_w 13, 3) := by decide +kernel
theorem dL_law_362 : decode cL_law 362 = .ok (.land, 1) := by decide +kernel
theorem dL_law_363 : decode cL_law 363 = .ok (.lor, 1) := by decide +kernel
theorem dL_law_364 : decode cL_law 364 = .ok (.invokevirtual 34, 3) := by decide +kernel
theorem dL_law_367 : decode cL_law 367 = .ok (.aload_n 2, 1) := by decide +kernel
theorem dL_law_368 : decode cL_law 368 = .ok (.aload_n 0, 1) := by decide +kernel
theorem dL_law_369 : decode cL_law 369 = .ok (.iload_n 3, 1) := by decide +kernel
theorem dL_law_370 : decode cL_law 370 = .ok (.iconst 1, 1) := by decide +kernel
theorem dL_law_371 : decode cL_law 371 = .ok (.iadd, 1) := by decide +kernel
theorem dL_law_372 : decode cL_law 372 = .ok (.iaload, 1) := by decide +kernel
theorem dL_law_373 : decode cL_law 373 = .ok (.i2l, 1) := by decide +kernel
theorem dL_law_374 : decode cL_law 374 = .ok (.bipush 32, 2) := by decide +kernel
theorem dL_law_376 : decode cL_law 376 = .ok (.lshl, 1) := by decide +kernel
theorem dL_law_377 : decode cL_law 377 = .ok (.aload_n 0, 1) := by decide +kernel
theorem dL_law_378 : decode cL_law 378 = .ok (.iload_n 3, 1) := by decide +kernel
theorem dL_law_379 : decode cL_law 379 = .ok (.iconst 2, 1) := by decide +kernel
theorem dL_law_380 : decode cL_law 380 = .ok (.iadd, 1) := by decide +kernel
theorem dL_law_381 : decode cL_law 381 = .ok (.iaload, 1) := by decide +kernel
theorem dL_law_382 : decode cL_law 382 = .ok (.i2l, 1) := by decide +kernel
theorem dL_law_383 : decode cL_law 383 = .ok (.ldc2_w 13, 3) := by decide +kernel
theorem dL_law_386 : decode cL_law 386 = .ok (.land, 1) := by decide +kernel
theorem dL_law_387 : decode cL_law 387 = .ok (.lor, 1) := by decide +kernel
theorem dL_law_388 : decode cL_law 388 = .ok (.aload_n 0, 1) := by decide +kernel
theorem dL_law_389 : decode cL_law 389 = .ok (.iload_n 3, 1) := by decide +kernel
theorem dL_law_390 : decode cL_law 390 = .ok (.iconst 3, 1) := by decide +kernel
theorem dL_law_391 : decode cL_law 391 = .ok (.iadd, 1) := by decide +kernel
theorem dL_law_392 : decode cL_law 392 = .ok (.iaload, 1) := by decide +kernel
theorem dL_law_393 : decode cL_law 393 = .ok (.aload_n 0, 1) := by decide +kernel
theorem dL_law_394 : decode cL_law 394 = .ok (.iload_n 3, 1) := by decide +kernel
theorem dL_law_395 : decode cL_law 395 = .ok (.iconst 4, 1) := by decide +kernel
theorem dL_law_396 : decode cL_law 396 = .ok (.iadd, 1) := by decide +kernel
theorem dL_law_397 : decode cL_law 397 = .ok (.iaload, 1) := by decide +kernel
theorem dL_law_398 : decode cL_law 398 = .ok (.i2l, 1) := by decide +kernel
theorem dL_law_399 : decode cL_law 399 = .ok (.bipush 32, 2) := by decide +kernel
theorem dL_law_401 : decode cL_law 401 = .ok (.lshl, 1) := by decide +kernel
theorem dL_law_402 : decode cL_law 402 = .ok (.aload_n 0, 1) := by decide +kernel
theorem dL_law_403 : decode cL_law 403 = .ok (.iload_n 3, 1) := by decide +kernel
theorem dL_law_404 : decode cL_law 404 = .ok (.iconst 5, 1) := by decide +kernel
theorem dL_law_405 : decode cL_law 405 = .ok (.iadd, 1) := by decide +kernel
theorem dL_law_406 : decode cL_law 406 = .ok (.iaload, 1) := by decide +kernel
theorem dL_law_407 : decode cL_law 407 = .ok (.i2l, 1) := by decide +kernel
theorem dL_law_408 : decode cL_law 408 = .ok (.ldc2_w 13, 3) := by decide +kernel
theorem dL_law_411 : decode cL_law 411 = .ok (.land, 1) := by decide +kernel
theorem dL_law_412 : decode cL_law 412 = .ok (.lor, 1) := by decide +kernel
theorem dL_law_413 : decode cL_law 413 = .ok (.invokevirtual 38, 3) := by decide +kernel
theorem dL_law_416 : decode cL_law 416 = .ok (.if_icmp .eq 610, 3) := by decide +kernel
theorem dL_law_419 : decode cL_law 419 = .ok (.iconst 0, 1) := by decide +kernel
theorem dL_law_420 : decode cL_law 420 = .ok (.ireturn, 1) := by decide +kernel
theorem dL_law_421 : decode cL_law 421 = .ok (.aload_n 1, 1) := by decide +kernel
theorem dL_law_422 : decode cL_law 422 = .ok (.aload_n 0, 1) := by decide +kernel
theorem dL_law_423 : decode cL_law 423 = .ok (.iload_n 3, 1) := by decide +kernel
theorem dL_law_424 : decode cL_law 424 = .ok (.iconst 1, 1) := by decide +kernel
theorem dL_law_425 : decode cL_law 425 = .ok (.iadd, 1) := by decide +kernel
theorem dL_law_426 : decode cL_law 426 = .ok (.iaload, 1) := by decide +kernel
theorem dL_law_427 : decode cL_law 427 = .ok (.invokevirtual 39, 3) := by decide +kernel
theorem dL_law_430 : decode cL_law 430 = .ok (.aload_n 2, 1) := by decide +kernel
theorem dL_law_431 : decode cL_law 431 = .ok (.aload_n 0, 1) := by decide +kernel
theorem dL_law_432 : decode cL_law 432 = .ok (.iload_n 3, 1) := by decide +kernel
theorem dL_law_433 : decode cL_law 433 = .ok (.iconst 1, 1) := by decide +kernel
theorem dL_law_434 : decode cL_law 434 = .ok (.iadd, 1) := by decide +kernel
theorem dL_law_435 : decode cL_law 435 = .ok (.iaload, 1) := by decide +kernel
theorem dL_law_436 : decode cL_law 436 = .ok (.invokevirtual 43, 3) := by decide +kernel
theorem dL_law_439 : decode cL_law 439 = .ok (.if_icmp .eq 587, 3) := by decide +kernel
theorem dL_law_442 : decode cL_law 442 = .ok (.iconst 0, 1) := by decide +kernel
theorem dL_law_443 : decode cL_law 443 = .ok (.ireturn, 1) := by decide +kernel
theorem dL_law_444 : decode cL_law 444 = .ok (.aload_n 1, 1) := by decide +kernel
theorem dL_law_445 : decode cL_law 445 = .ok (.aload_n 0, 1) := by decide +kernel
theorem dL_law_446 : decode cL_law 446 = .ok (.iload_n 3, 1) := by decide +kernel
theorem dL_law_447 : decode cL_law 447 = .ok (.iconst 1, 1) := by decide +kernel
theorem dL_law_448 : decode cL_law 448 = .ok (.iadd, 1) := by decide +kernel
theorem dL_law_449 : decode cL_law 449 = .ok (.iaload, 1) := by decide +kernel
theorem dL_law_450 : decode cL_law 450 = .ok (.i2l, 1) := by decide +kernel
theorem dL_law_451 : decode cL_law 451 = .ok (.bipush 32, 2) := by decide +kernel
theorem dL_law_453 : decode cL_law 453 = .ok (.lshl, 1) := by decide +kernel
theorem dL_law_454 : decode cL_law 454 = .ok (.aload_n 0, 1) := by decide +kernel
theorem dL_law_455 : decode cL_law 455 = .ok (.iload_n 3, 1) := by decide +kernel
theorem dL_law_456 : decode cL_law 456 = .ok (.iconst 2, 1) := by decide +kernel
theorem dL_law_457 : decode cL_law 457 = .ok (.iadd, 1) := by decide +kernel
theorem dL_law_458 : decode cL_law 458 = .ok (.iaload, 1) := by decide +kernel
theorem dL_law_459 : decode cL_law 459 = .ok (.i2l, 1) := by decide +kernel
theorem dL_law_460 : decode cL_law 460 = .ok (.ldc2_w 13, 3) := by decide +kernel
theorem dL_law_463 : decode cL_law 463 = .ok (.land, 1) := by decide +kernel
theorem dL_law_464 : decode cL_law 464 = .ok (.lor, 1) := by decide +kernel
theorem dL_law_465 : decode cL_law 465 = .ok (.aload_n 0, 1) := by decide +kernel
theorem dL_law_466 : decode cL_law 466 = .ok (.iload_n 3, 1) := by decide +kernel
theorem dL_law_467 : decode cL_law 467 = .ok (.iconst 3, 1) := by decide +kernel
theorem dL_law_468 : decode cL_law 468 = .ok (.iadd, 1) := by decide +kernel
theorem dL_law_469 : decode cL_law 469 = .ok (.iaload, 1) := by decide +kernel
theorem dL_law_470 : decode cL_law 470 = .ok (.aload_n 0, 1) := by decide +kernel
theorem dL_law_471 : decode cL_law 471 = .ok (.iload_n 3, 1) := by decide +kernel
theorem dL_law_472 : decode cL_law 472 = .ok (.iconst 4, 1) := by decide +kernel
theorem dL_law_473 : decode cL_law 473 = .ok (.iadd, 1) := by decide +kernel
theorem dL_law_474 : decode cL_law 474 = .ok (.iaload, 1) := by decide +kernel
theorem dL_law_475 : decode cL_law 475 = .ok (.aload_n 0, 1) := by decide +kernel
theorem dL_law_476 : decode cL_law 476 = .ok (.iload_n 3, 1) := by decide +kernel
theorem dL_law_477 : decode cL_law 477 = .ok (.iconst 5, 1) := by decide +kernel
theorem dL_law_478 : decode cL_law 478 = .ok (.iadd, 1) := by decide +kernel
theorem dL_law_479 : decode cL_law 479 = .ok (.iaload, 1) := by decide +kernel
theorem dL_law_480 : decode cL_law 480 = .ok (.i2l, 1) := by decide +kernel
theorem dL_law_481 : decode cL_law 481 = .ok (.bipush 32, 2) := by decide +kernel
theorem dL_law_483 : decode cL_law 483 = .ok (.lshl, 1) := by decide +kernel
theorem dL_law_484 : decode cL_law 484 = .ok (.aload_n 0, 1) := by decide +kernel
theorem dL_law_485 : decode cL_law 485 = .ok (.iload_n 3, 1) := by decide +kernel
theorem dL_law_486 : decode cL_law 486 = .ok (.bipush 6, 2) := by decide +kernel
theorem dL_law_488 : decode cL_law 488 = .ok (.iadd, 1) := by decide +kernel
theorem dL_law_489 : decode cL_law 489 = .ok (.iaload, 1) := by decide +kernel
theorem dL_law_490 : decode cL_law 490 = .ok (.i2l, 1) := by decide +kernel
theorem dL_law_491 : decode cL_law 491 = .ok (.ldc2_w 13, 3) := by decide +kernel
theorem dL_law_494 : decode cL_law 494 = .ok (.land, 1) := by decide +kernel
theorem dL_law_495 : decode cL_law 495 = .ok (.lor, 1) := by decide +kernel
theorem dL_law_496 : decode cL_law 496 = .ok (.invokevirtual 44, 3) := by decide +kernel
theorem dL_law_499 : decode cL_law 499 = .ok (.aload_n 2, 1) := by decide +kernel
theorem dL_law_500 : decode cL_law 500 = .ok (.aload_n 0, 1) := by decide +kernel
theorem dL_law_501 : decode cL_law 501 = .ok (.iload_n 3, 1) := by decide +kernel
theorem dL_law_502 : decode cL_law 502 = .ok (.iconst 1, 1) := by decide +kernel
theorem dL_law_503 : decode cL_law 503 = .ok (.iadd, 1) := by decide +kernel
theorem dL_law_504 : decode cL_law 504 = .ok (.iaload, 1) := by decide +kernel
theorem dL_law_505 : decode cL_law 505 = .ok (.i2l, 1) := by decide +kernel
theorem dL_law_506 : decode cL_law 506 = .ok (.bipush 32, 2) := by decide +kernel
theorem dL_law_508 : decode cL_law 508 = .ok (.lshl, 1) := by decide +kernel
theorem dL_law_509 : decode cL_law 509 = .ok (.aload_n 0, 1) := by decide +kernel
theorem dL_law_510 : decode cL_law 510 = .ok (.iload_n 3, 1) := by decide +kernel
theorem dL_law_511 : decode cL_law 511 = .ok (.iconst 2, 1) := by decide +kernel
theorem dL_law_512 : decode cL_law 512 = .ok (.iadd, 1) := by decide +kernel
theorem dL_law_513 : decode cL_law 513 = .ok (.iaload, 1) := by decide +kernel
theorem dL_law_514 : decode cL_law 514 = .ok (.i2l, 1) := by decide +kernel
theorem dL_law_515 : decode cL_law 515 = .ok (.ldc2_w 13, 3) := by decide +kernel
theorem dL_law_518 : decode cL_law 518 = .ok (.land, 1) := by decide +kernel
theorem dL_law_519 : decode cL_law 519 = .ok (.lor, 1) := by decide +kernel
theorem dL_law_520 : decode cL_law 520 = .ok (.aload_n 0, 1) := by decide +kernel
theorem dL_law_521 : decode cL_law 521 = .ok (.iload_n 3, 1) := by decide +kernel
theorem dL_law_522 : decode cL_law 522 = .ok (.iconst 3, 1) := by decide +kernel
theorem dL_law_523 : decode cL_law 523 = .ok (.iadd, 1) := by decide +kernel
theorem dL_law_524 : decode cL_law 524 = .ok (.iaload, 1) := by decide +kernel
theorem dL_law_525 : decode cL_law 525 = .ok (.aload_n 0, 1) := by decide +kernel
theorem dL_law_526 : decode cL_law 526 = .ok (.iload_n 3, 1) := by decide +kernel
theorem dL_law_527 : decode cL_law 527 = .ok (.iconst 4, 1) := by decide +kernel
theorem dL_law_528 : decode cL_law 528 = .ok (.iadd, 1) := by decide +kernel
theorem dL_law_529 : decode cL_law 529 = .ok (.iaload, 1) := by decide +kernel
theorem dL_law_530 : decode cL_law 530 = .ok (.aload_n 0, 1) := by decide +kernel
theorem dL_law_531 : decode cL_law 531 = .ok (.iload_n 3, 1) := by decide +kernel
theorem dL_law_532 : decode cL_law 532 = .ok (.iconst 5, 1) := by decide +kernel
theorem dL_law_533 : decode cL_law 533 = .ok (.iadd, 1) := by decide +kernel
theorem dL_law_534 : decode cL_law 534 = .ok (.iaload, 1) := by decide +kernel
theorem dL_law_535 : decode cL_law 535 = .ok (.i2l, 1) := by decide +kernel
theorem dL_law_536 : decode cL_law 536 = .ok (.bipush 32, 2) := by decide +kernel
theorem dL_law_538 : decode cL_law 538 = .ok (.lshl, 1) := by decide +kernel
theorem dL_law_539 : decode cL_law 539 = .ok (.aload_n 0, 1) := by decide +kernel
theorem dL_law_540 : decode cL_law 540 = .ok (.iload_n 3, 1) := by decide +kernel
theorem dL_law_541 : decode cL_law 541 = .ok (.bipush 6, 2) := by decide +kernel
theorem dL_law_543 : decode cL_law 543 = .ok (.iadd, 1) := by decide +kernel
theorem dL_law_544 : decode cL_law 544 = .ok (.iaload, 1) := by decide +kernel
theorem dL_law_545 : decode cL_law 545 = .ok (.i2l, 1) := by decide +kernel
theorem dL_law_546 : decode cL_law 546 = .ok (.ldc2_w 13, 3) := by decide +kernel
theorem dL_law_549 : decode cL_law 549 = .ok (.land, 1) := by decide +kernel
theorem dL_law_550 : decode cL_law 550 = .ok (.lor, 1) := by decide +kernel
theorem dL_law_551 : decode cL_law 551 = .ok (.invokevirtual 48, 3) := by decide +kernel
theorem dL_law_554 : decode cL_law 554 = .ok (.if_icmp .eq 472, 3) := by decide +kernel
theorem dL_law_557 : decode cL_law 557 = .ok (.iconst 0, 1) := by decide +kernel
theorem dL_law_558 : decode cL_law 558 = .ok (.ireturn, 1) := by decide +kernel
theorem dL_law_559 : decode cL_law 559 = .ok (.aload_n 1, 1) := by decide +kernel
theorem dL_law_560 : decode cL_law 560 = .ok (.aload_n 0, 1) := by decide +kernel
theorem dL_law_561 : decode cL_law 561 = .ok (.iload_n 3, 1) := by decide +kernel
theorem dL_law_562 : decode cL_law 562 = .ok (.iconst 1, 1) := by decide +kernel
theorem dL_law_563 : decode cL_law 563 = .ok (.iadd, 1) := by decide +kernel
theorem dL_law_564 : decode cL_law 564 = .ok (.iaload, 1) := by decide +kernel
theorem dL_law_565 : decode cL_law 565 = .ok (.i2l, 1) := by decide +kernel
theorem dL_law_566 : decode cL_law 566 = .ok (.bipush 32, 2) := by decide +kernel
theorem dL_law_568 : decode cL_law 568 = .ok (.lshl, 1) := by decide +kernel
theorem dL_law_569 : decode cL_law 569 = .ok (.aload_n 0, 1) := by decide +kernel
theorem dL_law_570 : decode cL_law 570 = .ok (.iload_n 3, 1) := by decide +kernel
theorem dL_law_571 : decode cL_law 571 = .ok (.iconst 2, 1) := by decide +kernel
theorem dL_law_572 : decode cL_law 572 = .ok (.iadd, 1) := by decide +kernel
theorem dL_law_573 : decode cL_law 573 = .ok (.iaload, 1) := by decide +kernel
theorem dL_law_574 : decode cL_law 574 = .ok (.i2l, 1) := by decide +kernel
theorem dL_law_575 : decode cL_law 575 = .ok (.ldc2_w 13, 3) := by decide +kernel
theorem dL_law_578 : decode cL_law 578 = .ok (.land, 1) := by decide +kernel
theorem dL_law_579 : decode cL_law 579 = .ok (.lor, 1) := by decide +kernel
theorem dL_law_580 : decode cL_law 580 = .ok (.aload_n 0, 1) := by decide +kernel
theorem dL_law_581 : decode cL_law 581 = .ok (.iload_n 3, 1) := by decide +kernel
theorem dL_law_582 : decode cL_law 582 = .ok (.iconst 3, 1) := by decide +kernel
theorem dL_law_583 : decode cL_law 583 = .ok (.iadd, 1) := by decide +kernel
theorem dL_law_584 : decode cL_law 584 = .ok (.iaload, 1) := by decide +kernel
theorem dL_law_585 : decode cL_law 585 = .ok (.invokevirtual 49, 3) := by decide +kernel
theorem dL_law_588 : decode cL_law 588 = .ok (.aload_n 2, 1) := by decide +kernel
theorem dL_law_589 : decode cL_law 589 = .ok (.aload_n 0, 1) := by decide +kernel
theorem dL_law_590 : decode cL_law 590 = .ok (.iload_n 3, 1) := by decide +kernel
theorem dL_law_591 : decode cL_law 591 = .ok (.iconst 1, 1) := by decide +kernel
theorem dL_law_592 : decode cL_law 592 = .ok (.iadd, 1) := by decide +kernel
theorem dL_law_593 : decode cL_law 593 = .ok (.iaload, 1) := by decide +kernel
theorem dL_law_594 : decode cL_law 594 = .ok (.i2l, 1) := by decide +kernel
theorem dL_law_595 : decode cL_law 595 = .ok (.bipush 32, 2) := by decide +kernel
theorem dL_law_597 : decode cL_law 597 = .ok (.lshl, 1) := by decide +kernel
theorem dL_law_598 : decode cL_law 598 = .ok (.aload_n 0, 1) := by decide +kernel
theorem dL_law_599 : decode cL_law 599 = .ok (.iload_n 3, 1) := by decide +kernel
theorem dL_law_600 : decode cL_law 600 = .ok (.iconst 2, 1) := by decide +kernel
theorem dL_law_601 : decode cL_law 601 = .ok (.iadd, 1) := by decide +kernel
theorem dL_law_602 : decode cL_law 602 = .ok (.iaload, 1) := by decide +kernel
theorem dL_law_603 : decode cL_law 603 = .ok (.i2l, 1) := by decide +kernel
theorem dL_law_604 : decode cL_law 604 = .ok (.ldc2_w 13, 3) := by decide +kernel
theorem dL_law_607 : decode cL_law 607 = .ok (.land, 1) := by decide +kernel
theorem dL_law_608 : decode cL_law 608 = .ok (.lor, 1) := by decide +kernel
theorem dL_law_609 : decode cL_law 609 = .ok (.aload_n 0, 1) := by decide +kernel
theorem dL_law_610 : decode cL_law 610 = .ok (.iload_n 3, 1) := by decide +kernel
theorem dL_law_611 : decode cL_law 611 = .ok (.iconst 3, 1) := by decide +kernel
theorem dL_law_612 : decode cL_law 612 = .ok (.iadd, 1) := by decide +kernel
theorem dL_law_613 : decode cL_law 613 = .ok (.iaload, 1) := by decide +kernel
theorem dL_law_614 : decode cL_law 614 = .ok (.invokevirtual 53, 3) := by decide +kernel
theorem dL_law_617 : decode cL_law 617 = .ok (.if_icmp .eq 409, 3) := by decide +kernel
theorem dL_law_620 : decode cL_law 620 = .ok (.iconst 0, 1) := by decide +kernel
theorem dL_law_621 : decode cL_law 621 = .ok (.ireturn, 1) := by decide +kernel
theorem dL_law_622 : decode cL_law 622 = .ok (.aload_n 1, 1) := by decide +kernel
theorem dL_law_623 : decode cL_law 623 = .ok (.aload_n 0, 1) := by decide +kernel
theorem dL_law_624 : decode cL_law 624 = .ok (.iload_n 3, 1) := by decide +kernel
theorem dL_law_625 : decode cL_law 625 = .ok (.iconst 1, 1) := by decide +kernel
theorem dL_law_626 : decode cL_law 626 = .ok (.iadd, 1) := by decide +kernel
theorem dL_law_627 : decode cL_law 627 = .ok (.iaload, 1) := by decide +kernel
theorem dL_law_628 : decode cL_law 628 = .ok (.invokevirtual 54, 3) := by decide +kernel
theorem dL_law_631 : decode cL_law 631 = .ok (.aload_n 2, 1) := by decide +kernel
theorem dL_law_632 : decode cL_law 632 = .ok (.aload_n 0, 1) := by decide +kernel
theorem dL_law_633 : decode cL_law 633 = .ok (.iload_n 3, 1) := by decide +kernel
theorem dL_law_634 : decode cL_law 634 = .ok (.iconst 1, 1) := by decide +kernel
theorem dL_law_635 : decode cL_law 635 = .ok (.iadd, 1) := by decide +kernel
theorem dL_law_636 : decode cL_law 636 = .ok (.iaload, 1) := by decide +kernel
theorem dL_law_637 : decode cL_law 637 = .ok (.invokevirtual 57, 3) := by decide +kernel
theorem dL_law_640 : decode cL_law 640 = .ok (.if_icmp .eq 386, 3) := by decide +kernel
theorem dL_law_643 : decode cL_law 643 = .ok (.iconst 0, 1) := by decide +kernel
theorem dL_law_644 : decode cL_law 644 = .ok (.ireturn, 1) := by decide +kernel
theorem dL_law_645 : decode cL_law 645 = .ok (.aload_n 1, 1) := by decide +kernel
theorem dL_law_646 : decode cL_law 646 = .ok (.aload_n 0, 1) := by decide +kernel
theorem dL_law_647 : decode cL_law 647 = .ok (.iload_n 3, 1) := by decide +kernel
theorem dL_law_648 : decode cL_law 648 = .ok (.iconst 1, 1) := by decide +kernel
theorem dL_law_649 : decode cL_law 649 = .ok (.iadd, 1) := by decide +kernel
theorem dL_law_650 : decode cL_law 650 = .ok (.iaload, 1) := by decide +kernel
theorem dL_law_651 : decode cL_law 651 = .ok (.aload_n 0, 1) := by decide +kernel
theorem dL_law_652 : decode cL_law 652 = .ok (.iload_n 3, 1) := by decide +kernel
theorem dL_law_653 : decode cL_law 653 = .ok (.iconst 2, 1) := by decide +kernel
theorem dL_law_654 : decode cL_law 654 = .ok (.iadd, 1) := by decide +kernel
theorem dL_law_655 : decode cL_law 655 = .ok (.iaload, 1) := by decide +kernel
theorem dL_law_656 : decode cL_law 656 = .ok (.invokevirtual 58, 3) := by decide +kernel
theorem dL_law_659 : decode cL_law 659 = .ok (.aload_n 2, 1) := by decide +kernel
theorem dL_law_660 : decode cL_law 660 = .ok (.aload_n 0, 1) := by decide +kernel
theorem dL_law_661 : decode cL_law 661 = .ok (.iload_n 3, 1) := by decide +kernel
theorem dL_law_662 : decode cL_law 662 = .ok (.iconst 1, 1) := by decide +kernel
theorem dL_law_663 : decode cL_law 663 = .ok (.iadd, 1) := by decide +kernel
theorem dL_law_664 : decode cL_law 664 = .ok (.iaload, 1) := by decide +kernel
theorem dL_law_665 : decode cL_law 665 = .ok (.aload_n 0, 1) := by decide +kernel
theorem dL_law_666 : decode cL_law 666 = .ok (.iload_n 3, 1) := by decide +kernel
theorem dL_law_667 : decode cL_law 667 = .ok (.iconst 2, 1) := by decide +kernel
theorem dL_law_668 : decode cL_law 668 = .ok (.iadd, 1) := by decide +kernel
theorem dL_law_669 : decode cL_law 669 = .ok (.iaload, 1) := by decide +kernel
theorem dL_law_670 : decode cL_law 670 = .ok (.invokevirtual 62, 3) := by decide +kernel
theorem dL_law_673 : decode cL_law 673 = .ok (.lcmp, 1) := by decide +kernel
theorem dL_law_674 : decode cL_law 674 = .ok (.ifCond .eq 352, 3) := by decide +kernel
theorem dL_law_677 : decode cL_law 677 = .ok (.iconst 0, 1) := by decide +kernel
theorem dL_law_678 : decode cL_law 678 = .ok (.ireturn, 1) := by decide +kernel
theorem dL_law_679 : decode cL_law 679 = .ok (.aload_n 1, 1) := by decide +kernel
theorem dL_law_680 : decode cL_law 680 = .ok (.aload_n 0, 1) := by decide +kernel
theorem dL_law_681 : decode cL_law 681 = .ok (.iload_n 3, 1) := by decide +kernel
theorem dL_law_682 : decode cL_law 682 = .ok (.iconst 1, 1) := by decide +kernel
theorem dL_law_683 : decode cL_law 683 = .ok (.iadd, 1) := by decide +kernel
theorem dL_law_684 : decode cL_law 684 = .ok (.iaload, 1) := by decide +kernel
theorem dL_law_685 : decode cL_law 685 = .ok (.aload_n 0, 1) := by decide +kernel
theorem dL_law_686 : decode cL_law 686 = .ok (.iload_n 3, 1) := by decide +kernel
theorem dL_law_687 : decode cL_law 687 = .ok (.iconst 2, 1) := by decide +kernel
theorem dL_law_688 : decode cL_law 688 = .ok (.iadd, 1) := by decide +kernel
theorem dL_law_689 : decode cL_law 689 = .ok (.iaload, 1) := by decide +kernel
theorem dL_law_690 : decode cL_law 690 = .ok (.invokevirtual 63, 3) := by decide +kernel
theorem dL_law_693 : decode cL_law 693 = .ok (.aload_n 2, 1) := by decide +kernel
theorem dL_law_694 : decode cL_law 694 = .ok (.aload_n 0, 1) := by decide +kernel
theorem dL_law_695 : decode cL_law 695 = .ok (.iload_n 3, 1) := by decide +kernel
theorem dL_law_696 : decode cL_law 696 = .ok (.iconst 1, 1) := by decide +kernel
theorem dL_law_697 : decode cL_law 697 = .ok (.iadd, 1) := by decide +kernel
theorem dL_law_698 : decode cL_law 698 = .ok (.iaload, 1) := by decide +kernel
theorem dL_law_699 : decode cL_law 699 = .ok (.aload_n 0, 1) := by decide +kernel
theorem dL_law_700 : decode cL_law 700 = .ok (.iload_n 3, 1) := by decide +kernel
theorem dL_law_701 : decode cL_law 701 = .ok (.iconst 2, 1) := by decide +kernel
theorem dL_law_702 : decode cL_law 702 = .ok (.iadd, 1) := by decide +kernel
theorem dL_law_703 : decode cL_law 703 = .ok (.iaload, 1) := by decide +kernel
theorem dL_law_704 : decode cL_law 704 = .ok (.invokevirtual 66, 3) := by decide +kernel
theorem dL_law_707 : decode cL_law 707 = .ok (.lcmp, 1) := by decide +kernel
theorem dL_law_708 : decode cL_law 708 = .ok (.ifCond .eq 318, 3) := by decide +kernel
theorem dL_law_711 : decode cL_law 711 = .ok (.iconst 0, 1) := by decide +kernel
theorem dL_law_712 : decode cL_law 712 = .ok (.ireturn, 1) := by decide +kernel
theorem dL_law_713 : decode cL_law 713 = .ok (.aload_n 1, 1) := by decide +kernel
theorem dL_law_714 : decode cL_law 714 = .ok (.aload_n 0, 1) := by decide +kernel
theorem dL_law_715 : decode cL_law 715 = .ok (.iload_n 3, 1) := by decide +kernel
theorem dL_law_716 : decode cL_law 716 = .ok (.iconst 1, 1) := by decide +kernel
theorem dL_law_717 : decode cL_law 717 = .ok (.iadd, 1) := by decide +kernel
theorem dL_law_718 : decode cL_law 718 = .ok (.iaload, 1) := by decide +kernel
theorem dL_law_719 : decode cL_law 719 = .ok (.invokevirtual 67, 3) := by decide +kernel
theorem dL_law_722 : decode cL_law 722 = .ok (.aload_n 2, 1) := by decide +kernel
theorem dL_law_723 : decode cL_law 723 = .ok (.aload_n 0, 1) := by decide +kernel
theorem dL_law_724 : decode cL_law 724 = .ok (.iload_n 3, 1) := by decide +kernel
theorem dL_law_725 : decode cL_law 725 = .ok (.iconst 1, 1) := by decide +kernel
theorem dL_law_726 : decode cL_law 726 = .ok (.iadd, 1) := by decide +kernel
theorem dL_law_727 : decode cL_law 727 = .ok (.iaload, 1) := by decide +kernel
theorem dL_law_728 : decode cL_law 728 = .ok (.invokevirtual 70, 3) := by decide +kernel
theorem dL_law_731 : decode cL_law 731 = .ok (.if_icmp .eq 295, 3) := by decide +kernel
theorem dL_law_734 : decode cL_law 734 = .ok (.iconst 0, 1) := by decide +kernel
theorem dL_law_735 : decode cL_law 735 = .ok (.ireturn, 1) := by decide +kernel
theorem dL_law_736 : decode cL_law 736 = .ok (.aload_n 1, 1) := by decide +kernel
theorem dL_law_737 : decode cL_law 737 = .ok (.aload_n 0, 1) := by decide +kernel
theorem dL_law_738 : decode cL_law 738 = .ok (.iload_n 3, 1) := by decide +kernel
theorem dL_law_739 : decode cL_law 739 = .ok (.iconst 1, 1) := by decide +kernel
theorem dL_law_740 : decode cL_law 740 = .ok (.iadd, 1) := by decide +kernel
theorem dL_law_741 : decode cL_law 741 = .ok (.iaload, 1) := by decide +kernel
theorem dL_law_742 : decode cL_law 742 = .ok (.aload_n 0, 1) := by decide +kernel
theorem dL_law_743 : decode cL_law 743 = .ok (.iload_n 3, 1) := by decide +kernel
theorem dL_law_744 : decode cL_law 744 = .ok (.iconst 2, 1) := by decide +kernel
theorem dL_law_745 : decode cL_law 745 = .ok (.iadd, 1) := by decide +kernel
theorem dL_law_746 : decode cL_law 746 = .ok (.iaload, 1) := by decide +kernel
theorem dL_law_747 : decode cL_law 747 = .ok (.invokevirtual 71, 3) := by decide +kernel
theorem dL_law_750 : decode cL_law 750 = .ok (.aload_n 2, 1) := by decide +kernel
theorem dL_law_751 : decode cL_law 751 = .ok (.aload_n 0, 1) := by decide +kernel
theorem dL_law_752 : decode cL_law 752 = .ok (.iload_n 3, 1) := by decide +kernel
theorem dL_law_753 : decode cL_law 753 = .ok (.iconst 1, 1) := by decide +kernel
theorem dL_law_754 : decode cL_law 754 = .ok (.iadd, 1) := by decide +kernel
theorem dL_law_755 : decode cL_law 755 = .ok (.iaload, 1) := by decide +kernel
theorem dL_law_756 : decode cL_law 756 = .ok (.aload_n 0, 1) := by decide +kernel
theorem dL_law_757 : decode cL_law 757 = .ok (.iload_n 3, 1) := by decide +kernel
theorem dL_law_758 : decode cL_law 758 = .ok (.iconst 2, 1) := by decide +kernel
theorem dL_law_759 : decode cL_law 759 = .ok (.iadd, 1) := by decide +kernel
theorem dL_law_760 : decode cL_law 760 = .ok (.iaload, 1) := by decide +kernel
theorem dL_law_761 : decode cL_law 761 = .ok (.invokevirtual 75, 3) := by decide +kernel
theorem dL_law_764 : decode cL_law 764 = .ok (.if_icmp .eq 262, 3) := by decide +kernel
theorem dL_law_767 : decode cL_law 767 = .ok (.iconst 0, 1) := by decide +kernel
theorem dL_law_768 : decode cL_law 768 = .ok (.ireturn, 1) := by decide +kernel
theorem dL_law_769 : decode cL_law 769 = .ok (.aload_n 1, 1) := by decide +kernel
theorem dL_law_770 : decode cL_law 770 = .ok (.aload_n 0, 1) := by decide +kernel
theorem dL_law_771 : decode cL_law 771 = .ok (.iload_n 3, 1) := by decide +kernel
theorem dL_law_772 : decode cL_law 772 = .ok (.iconst 1, 1) := by decide +kernel
theorem dL_law_773 : decode cL_law 773 = .ok (.iadd, 1) := by decide +kernel
theorem dL_law_774 : decode cL_law 774 = .ok (.iaload, 1) := by decide +kernel
theorem dL_law_775 : decode cL_law 775 = .ok (.aload_n 0, 1) := by decide +kernel
theorem dL_law_776 : decode cL_law 776 = .ok (.iload_n 3, 1) := by decide +kernel
theorem dL_law_777 : decode cL_law 777 = .ok (.iconst 2, 1) := by decide +kernel
theorem dL_law_778 : decode cL_law 778 = .ok (.iadd, 1) := by decide +kernel
theorem dL_law_779 : decode cL_law 779 = .ok (.iaload, 1) := by decide +kernel
theorem dL_law_780 : decode cL_law 780 = .ok (.aload_n 0, 1) := by decide +kernel
theorem dL_law_781 : decode cL_law 781 = .ok (.iload_n 3, 1) := by decide +kernel
theorem dL_law_782 : decode cL_law 782 = .ok (.iconst 3, 1) := by decide +kernel
theorem dL_law_783 : decode cL_law 783 = .ok (.iadd, 1) := by decide +kernel
theorem dL_law_784 : decode cL_law 784 = .ok (.iaload, 1) := by decide +kernel
theorem dL_law_785 : decode cL_law 785 = .ok (.invokevirtual 76, 3) := by decide +kernel
theorem dL_law_788 : decode cL_law 788 = .ok (.aload_n 2, 1) := by decide +kernel
theorem dL_law_789 : decode cL_law 789 = .ok (.aload_n 0, 1) := by decide +kernel
theorem dL_law_790 : decode cL_law 790 = .ok (.iload_n 3, 1) := by decide +kernel
theorem dL_law_791 : decode cL_law 791 = .ok (.iconst 1, 1) := by decide +kernel
theorem dL_law_792 : decode cL_law 792 = .ok (.iadd, 1) := by decide +kernel
theorem dL_law_793 : decode cL_law 793 = .ok (.iaload, 1) := by decide +kernel
theorem dL_law_794 : decode cL_law 794 = .ok (.aload_n 0, 1) := by decide +kernel
theorem dL_law_795 : decode cL_law 795 = .ok (.iload_n 3, 1) := by decide +kernel
theorem dL_law_796 : decode cL_law 796 = .ok (.iconst 2, 1) := by decide +kernel
theorem dL_law_797 : decode cL_law 797 = .ok (.iadd, 1) := by decide +kernel
theorem dL_law_798 : decode cL_law 798 = .ok (.iaload, 1) := by decide +kernel
theorem dL_law_799 : decode cL_law 799 = .ok (.aload_n 0, 1) := by decide +kernel
theorem dL_law_800 : decode cL_law 800 = .ok (.iload_n 3, 1) := by decide +kernel
theorem dL_law_801 : decode cL_law 801 = .ok (.iconst 3, 1) := by decide +kernel
theorem dL_law_802 : decode cL_law 802 = .ok (.iadd, 1) := by decide +kernel
theorem dL_law_803 : decode cL_law 803 = .ok (.iaload, 1) := by decide +kernel
theorem dL_law_804 : decode cL_law 804 = .ok (.invokevirtual 80, 3) := by decide +kernel
theorem dL_law_807 : decode cL_law 807 = .ok (.if_icmp .eq 219, 3) := by decide +kernel
theorem dL_law_810 : decode cL_law 810 = .ok (.iconst 0, 1) := by decide +kernel
theorem dL_law_811 : decode cL_law 811 = .ok (.ireturn, 1) := by decide +kernel
theorem dL_law_812 : decode cL_law 812 = .ok (.aload_n 1, 1) := by decide +kernel
theorem dL_law_813 : decode cL_law 813 = .ok (.aload_n 0, 1) := by decide +kernel
theorem dL_law_814 : decode cL_law 814 = .ok (.iload_n 3, 1) := by decide +kernel
theorem dL_law_815 : decode cL_law 815 = .ok (.iconst 1, 1) := by decide +kernel
theorem dL_law_816 : decode cL_law 816 = .ok (.iadd, 1) := by decide +kernel
theorem dL_law_817 : decode cL_law 817 = .ok (.iaload, 1) := by decide +kernel
theorem dL_law_818 : decode cL_law 818 = .ok (.invokevirtual 81, 3) := by decide +kernel
theorem dL_law_821 : decode cL_law 821 = .ok (.aload_n 2, 1) := by decide +kernel
theorem dL_law_822 : decode cL_law 822 = .ok (.aload_n 0, 1) := by decide +kernel
theorem dL_law_823 : decode cL_law 823 = .ok (.iload_n 3, 1) := by decide +kernel
theorem dL_law_824 : decode cL_law 824 = .ok (.iconst 1, 1) := by decide +kernel
theorem dL_law_825 : decode cL_law 825 = .ok (.iadd, 1) := by decide +kernel
theorem dL_law_826 : decode cL_law 826 = .ok (.iaload, 1) := by decide +kernel
theorem dL_law_827 : decode cL_law 827 = .ok (.invokevirtual 84, 3) := by decide +kernel
theorem dL_law_830 : decode cL_law 830 = .ok (.if_icmp .eq 196, 3) := by decide +kernel
theorem dL_law_833 : decode cL_law 833 = .ok (.iconst 0, 1) := by decide +kernel
theorem dL_law_834 : decode cL_law 834 = .ok (.ireturn, 1) := by decide +kernel
theorem dL_law_835 : decode cL_law 835 = .ok (.aload_n 1, 1) := by decide +kernel
theorem dL_law_836 : decode cL_law 836 = .ok (.aload_n 0, 1) := by decide +kernel
theorem dL_law_837 : decode cL_law 837 = .ok (.iload_n 3, 1) := by decide +kernel
theorem dL_law_838 : decode cL_law 838 = .ok (.iconst 1, 1) := by decide +kernel
theorem dL_law_839 : decode cL_law 839 = .ok (.iadd, 1) := by decide +kernel
theorem dL_law_840 : decode cL_law 840 = .ok (.iaload, 1) := by decide +kernel
theorem dL_law_841 : decode cL_law 841 = .ok (.invokevirtual 85, 3) := by decide +kernel
theorem dL_law_844 : decode cL_law 844 = .ok (.aload_n 2, 1) := by decide +kernel
theorem dL_law_845 : decode cL_law 845 = .ok (.aload_n 0, 1) := by decide +kernel
theorem dL_law_846 : decode cL_law 846 = .ok (.iload_n 3, 1) := by decide +kernel
theorem dL_law_847 : decode cL_law 847 = .ok (.iconst 1, 1) := by decide +kernel
theorem dL_law_848 : decode cL_law 848 = .ok (.iadd, 1) := by decide +kernel
theorem dL_law_849 : decode cL_law 849 = .ok (.iaload, 1) := by decide +kernel
theorem dL_law_850 : decode cL_law 850 = .ok (.invokevirtual 88, 3) := by decide +kernel
theorem dL_law_853 : decode cL_law 853 = .ok (.if_icmp .eq 173, 3) := by decide +kernel
theorem dL_law_856 : decode cL_law 856 = .ok (.iconst 0, 1) := by decide +kernel
theorem dL_law_857 : decode cL_law 857 = .ok (.ireturn, 1) := by decide +kernel
theorem dL_law_858 : decode cL_law 858 = .ok (.aload_n 1, 1) := by decide +kernel
theorem dL_law_859 : decode cL_law 859 = .ok (.aload_n 0, 1) := by decide +kernel
theorem dL_law_860 : decode cL_law 860 = .ok (.iload_n 3, 1) := by decide +kernel
theorem dL_law_861 : decode cL_law 861 = .ok (.iconst 1, 1) := by decide +kernel
theorem dL_law_862 : decode cL_law 862 = .ok (.iadd, 1) := by decide +kernel
theorem dL_law_863 : decode cL_law 863 = .ok (.iaload, 1) := by decide +kernel
theorem dL_law_864 : decode cL_law 864 = .ok (.aload_n 0, 1) := by decide +kernel
theorem dL_law_865 : decode cL_law 865 = .ok (.iload_n 3, 1) := by decide +kernel
theorem dL_law_866 : decode cL_law 866 = .ok (.iconst 2, 1) := by decide +kernel
theorem dL_law_867 : decode cL_law 867 = .ok (.iadd, 1) := by decide +kernel
theorem dL_law_868 : decode cL_law 868 = .ok (.iaload, 1) := by decide +kernel
theorem dL_law_869 : decode cL_law 869 = .ok (.invokevirtual 89, 3) := by decide +kernel
theorem dL_law_872 : decode cL_law 872 = .ok (.aload_n 2, 1) := by decide +kernel
theorem dL_law_873 : decode cL_law 873 = .ok (.aload_n 0, 1) := by decide +kernel
theorem dL_law_874 : decode cL_law 874 = .ok (.iload_n 3, 1) := by decide +kernel
theorem dL_law_875 : decode cL_law 875 = .ok (.iconst 1, 1) := by decide +kernel
theorem dL_law_876 : decode cL_law 876 = .ok (.iadd, 1) := by decide +kernel
theorem dL_law_877 : decode cL_law 877 = .ok (.iaload, 1) := by decide +kernel
theorem dL_law_878 : decode cL_law 878 = .ok (.aload_n 0, 1) := by decide +kernel
theorem dL_law_879 : decode cL_law 879 = .ok (.iload_n 3, 1) := by decide +kernel
theorem dL_law_880 : decode cL_law 880 = .ok (.iconst 2, 1) := by decide +kernel
theorem dL_law_881 : decode cL_law 881 = .ok (.iadd, 1) := by decide +kernel
theorem dL_law_882 : decode cL_law 882 = .ok (.iaload, 1) := by decide +kernel
theorem dL_law_883 : decode cL_law 883 = .ok (.invokevirtual 92, 3) := by decide +kernel
theorem dL_law_886 : decode cL_law 886 = .ok (.if_icmp .eq 140, 3) := by decide +kernel
theorem dL_law_889 : decode cL_law 889 = .ok (.iconst 0, 1) := by decide +kernel
theorem dL_law_890 : decode cL_law 890 = .ok (.ireturn, 1) := by decide +kernel
theorem dL_law_891 : decode cL_law 891 = .ok (.aload_n 1, 1) := by decide +kernel
theorem dL_law_892 : decode cL_law 892 = .ok (.aload_n 0, 1) := by decide +kernel
theorem dL_law_893 : decode cL_law 893 = .ok (.iload_n 3, 1) := by decide +kernel
theorem dL_law_894 : decode cL_law 894 = .ok (.iconst 1, 1) := by decide +kernel
theorem dL_law_895 : decode cL_law 895 = .ok (.iadd, 1) := by decide +kernel
theorem dL_law_896 : decode cL_law 896 = .ok (.iaload, 1) := by decide +kernel
theorem dL_law_897 : decode cL_law 897 = .ok (.aload_n 0, 1) := by decide +kernel
theorem dL_law_898 : decode cL_law 898 = .ok (.iload_n 3, 1) := by decide +kernel
theorem dL_law_899 : decode cL_law 899 = .ok (.iconst 2, 1) := by decide +kernel
theorem dL_law_900 : decode cL_law 900 = .ok (.iadd, 1) := by decide +kernel
theorem dL_law_901 : decode cL_law 901 = .ok (.iaload, 1) := by decide +kernel
theorem dL_law_902 : decode cL_law 902 = .ok (.invokevirtual 93, 3) := by decide +kernel
theorem dL_law_905 : decode cL_law 905 = .ok (.aload_n 2, 1) := by decide +kernel
theorem dL_law_906 : decode cL_law 906 = .ok (.aload_n 0, 1) := by decide +kernel
theorem dL_law_907 : decode cL_law 907 = .ok (.iload_n 3, 1) := by decide +kernel
theorem dL_law_908 : decode cL_law 908 = .ok (.iconst 1, 1) := by decide +kernel
theorem dL_law_909 : decode cL_law 909 = .ok (.iadd, 1) := by decide +kernel
theorem dL_law_910 : decode cL_law 910 = .ok (.iaload, 1) := by decide +kernel
theorem dL_law_911 : decode cL_law 911 = .ok (.aload_n 0, 1) := by decide +kernel
theorem dL_law_912 : decode cL_law 912 = .ok (.iload_n 3, 1) := by decide +kernel
theorem dL_law_913 : decode cL_law 913 = .ok (.iconst 2, 1) := by decide +kernel
theorem dL_law_914 : decode cL_law 914 = .ok (.iadd, 1) := by decide +kernel
theorem dL_law_915 : decode cL_law 915 = .ok (.iaload, 1) := by decide +kernel
theorem dL_law_916 : decode cL_law 916 = .ok (.invokevirtual 96, 3) := by decide +kernel
theorem dL_law_919 : decode cL_law 919 = .ok (.if_icmp .eq 107, 3) := by decide +kernel
theorem dL_law_922 : decode cL_law 922 = .ok (.iconst 0, 1) := by decide +kernel
theorem dL_law_923 : decode cL_law 923 = .ok (.ireturn, 1) := by decide +kernel
theorem dL_law_924 : decode cL_law 924 = .ok (.aload_n 1, 1) := by decide +kernel
theorem dL_law_925 : decode cL_law 925 = .ok (.aload_n 0, 1) := by decide +kernel
theorem dL_law_926 : decode cL_law 926 = .ok (.iload_n 3, 1) := by decide +kernel
theorem dL_law_927 : decode cL_law 927 = .ok (.iconst 1, 1) := by decide +kernel
theorem dL_law_928 : decode cL_law 928 = .ok (.iadd, 1) := by decide +kernel
theorem dL_law_929 : decode cL_law 929 = .ok (.iaload, 1) := by decide +kernel
theorem dL_law_930 : decode cL_law 930 = .ok (.aload_n 0, 1) := by decide +kernel
theorem dL_law_931 : decode cL_law 931 = .ok (.iload_n 3, 1) := by decide +kernel
theorem dL_law_932 : decode cL_law 932 = .ok (.iconst 2, 1) := by decide +kernel
theorem dL_law_933 : decode cL_law 933 = .ok (.iadd, 1) := by decide +kernel
theorem dL_law_934 : decode cL_law 934 = .ok (.iaload, 1) := by decide +kernel
theorem dL_law_935 : decode cL_law 935 = .ok (.invokevirtual 97, 3) := by decide +kernel
theorem dL_law_938 : decode cL_law 938 = .ok (.aload_n 2, 1) := by decide +kernel
theorem dL_law_939 : decode cL_law 939 = .ok (.aload_n 0, 1) := by decide +kernel
theorem dL_law_940 : decode cL_law 940 = .ok (.iload_n 3, 1) := by decide +kernel
theorem dL_law_941 : decode cL_law 941 = .ok (.iconst 1, 1) := by decide +kernel
theorem dL_law_942 : decode cL_law 942 = .ok (.iadd, 1) := by decide +kernel
theorem dL_law_943 : decode cL_law 943 = .ok (.iaload, 1) := by decide +kernel
theorem dL_law_944 : decode cL_law 944 = .ok (.aload_n 0, 1) := by decide +kernel
theorem dL_law_945 : decode cL_law 945 = .ok (.iload_n 3, 1) := by decide +kernel
theorem dL_law_946 : decode cL_law 946 = .ok (.iconst 2, 1) := by decide +kernel
theorem dL_law_947 : decode cL_law 947 = .ok (.iadd, 1) := by decide +kernel
theorem dL_law_948 : decode cL_law 948 = .ok (.iaload, 1) := by decide +kernel
theorem dL_law_949 : decode cL_law 949 = .ok (.invokevirtual 100, 3) := by decide +kernel
theorem dL_law_952 : decode cL_law 952 = .ok (.if_icmp .eq 74, 3) := by decide +kernel
theorem dL_law_955 : decode cL_law 955 = .ok (.iconst 0, 1) := by decide +kernel
theorem dL_law_956 : decode cL_law 956 = .ok (.ireturn, 1) := by decide +kernel
theorem dL_law_957 : decode cL_law 957 = .ok (.aload_n 1, 1) := by decide +kernel
theorem dL_law_958 : decode cL_law 958 = .ok (.aload_n 0, 1) := by decide +kernel
theorem dL_law_959 : decode cL_law 959 = .ok (.iload_n 3, 1) := by decide +kernel
theorem dL_law_960 : decode cL_law 960 = .ok (.iconst 1, 1) := by decide +kernel
theorem dL_law_961 : decode cL_law 961 = .ok (.iadd, 1) := by decide +kernel
theorem dL_law_962 : decode cL_law 962 = .ok (.iaload, 1) := by decide +kernel
theorem dL_law_963 : decode cL_law 963 = .ok (.aload_n 0, 1) := by decide +kernel
theorem dL_law_964 : decode cL_law 964 = .ok (.iload_n 3, 1) := by decide +kernel
theorem dL_law_965 : decode cL_law 965 = .ok (.iconst 2, 1) := by decide +kernel
theorem dL_law_966 : decode cL_law 966 = .ok (.iadd, 1) := by decide +kernel
theorem dL_law_967 : decode cL_law 967 = .ok (.iaload, 1) := by decide +kernel
theorem dL_law_968 : decode cL_law 968 = .ok (.invokevirtual 101, 3) := by decide +kernel
theorem dL_law_971 : decode cL_law 971 = .ok (.aload_n 2, 1) := by decide +kernel
theorem dL_law_972 : decode cL_law 972 = .ok (.aload_n 0, 1) := by decide +kernel
theorem dL_law_973 : decode cL_law 973 = .ok (.iload_n 3, 1) := by decide +kernel
theorem dL_law_974 : decode cL_law 974 = .ok (.iconst 1, 1) := by decide +kernel
theorem dL_law_975 : decode cL_law 975 = .ok (.iadd, 1) := by decide +kernel
theorem dL_law_976 : decode cL_law 976 = .ok (.iaload, 1) := by decide +kernel
theorem dL_law_977 : decode cL_law 977 = .ok (.aload_n 0, 1) := by decide +kernel
theorem dL_law_978 : decode cL_law 978 = .ok (.iload_n 3, 1) := by decide +kernel
theorem dL_law_979 : decode cL_law 979 = .ok (.iconst 2, 1) := by decide +kernel
theorem dL_law_980 : decode cL_law 980 = .ok (.iadd, 1) := by decide +kernel
theorem dL_law_981 : decode cL_law 981 = .ok (.iaload, 1) := by decide +kernel
theorem dL_law_982 : decode cL_law 982 = .ok (.invokevirtual 104, 3) := by decide +kernel
theorem dL_law_985 : decode cL_law 985 = .ok (.if_icmp .eq 41, 3) := by decide +kernel
theorem dL_law_988 : decode cL_law 988 = .ok (.iconst 0, 1) := by decide +kernel
theorem dL_law_989 : decode cL_law 989 = .ok (.ireturn, 1) := by decide +kernel
theorem dL_law_990 : decode cL_law 990 = .ok (.aload_n 1, 1) := by decide +kernel
theorem dL_law_991 : decode cL_law 991 = .ok (.invokevirtual 105, 3) := by decide +kernel
theorem dL_law_994 : decode cL_law 994 = .ok (.aload_n 2, 1) := by decide +kernel
theorem dL_law_995 : decode cL_law 995 = .ok (.invokevirtual 108, 3) := by decide +kernel
theorem dL_law_998 : decode cL_law 998 = .ok (.if_icmp .eq 28, 3) := by decide +kernel
theorem dL_law_1001 : decode cL_law 1001 = .ok (.iconst 0, 1) := by decide +kernel
theorem dL_law_1002 : decode cL_law 1002 = .ok (.ireturn, 1) := by decide +kernel
theorem dL_law_1003 : decode cL_law 1003 = .ok (.aload_n 1, 1) := by decide +kernel
theorem dL_law_1004 : decode cL_law 1004 = .ok (.aload_n 0, 1) := by decide +kernel
theorem dL_law_1005 : decode cL_law 1005 = .ok (.iload_n 3, 1) := by decide +kernel
theorem dL_law_1006 : decode cL_law 1006 = .ok (.iconst 1, 1) := by decide +kernel
theorem dL_law_1007 : decode cL_law 1007 = .ok (.iadd, 1) := by decide +kernel
theorem dL_law_1008 : decode cL_law 1008 = .ok (.iaload, 1) := by decide +kernel
theorem dL_law_1009 : decode cL_law 1009 = .ok (.invokevirtual 109, 3) := by decide +kernel
theorem dL_law_1012 : decode cL_law 1012 = .ok (.aload_n 2, 1) := by decide +kernel
theorem dL_law_1013 : decode cL_law 1013 = .ok (.aload_n 0, 1) := by decide +kernel
theorem dL_law_1014 : decode cL_law 1014 = .ok (.iload_n 3, 1) := by decide +kernel
theorem dL_law_1015 : decode cL_law 1015 = .ok (.iconst 1, 1) := by decide +kernel
theorem dL_law_1016 : decode cL_law 1016 = .ok (.iadd, 1) := by decide +kernel
theorem dL_law_1017 : decode cL_law 1017 = .ok (.iaload, 1) := by decide +kernel
theorem dL_law_1018 : decode cL_law 1018 = .ok (.invokevirtual 112, 3) := by decide +kernel
theorem dL_law_1021 : decode cL_law 1021 = .ok (.if_icmp .eq 5, 3) := by decide +kernel
theorem dL_law_1024 : decode cL_law 1024 = .ok (.iconst 0, 1) := by decide +kernel
theorem dL_law_1025 : decode cL_law 1025 = .ok (.ireturn, 1) := by decide +kernel
theorem dL_law_1026 : decode cL_law 1026 = .ok (.iinc 3 7, 3) := by decide +kernel
theorem dL_law_1029 : decode cL_law 1029 = .ok (.goto (-1011), 3) := by decide +kernel
theorem dL_law_1032 : decode cL_law 1032 = .ok (.iconst 1, 1) := by decide +kernel
theorem dL_law_1033 : decode cL_law 1033 = .ok (.ireturn, 1) := by decide +kernel
end
section
-- THE MEMORY: cells by number; cells below nS are the static rows of ints; shapes, references, ints, longs
abbrev Shp : Type := (FieldType × Nat) ⊕ Nat
abbrev Mem : Type := Nat × Nat × (Nat → Shp) × (Nat → Nat → Option Nat) × (Nat → Nat → Int32) × (Nat → Nat → Int64)
abbrev Gx : Type := va_G × (FieldType → ClassId) × Nat × (Nat → Nat)
abbrev Cx : Type := Program × Launch × Env × Room × State × MethodId × Array Value × List Frame × Method × Code
abbrev mSh (M : Mem) : Nat → Shp := M.2.2.1
abbrev mR (M : Mem) : Nat → Nat → Option Nat := M.2.2.2.1
abbrev mI (M : Mem) : Nat → Nat → Int32 := M.2.2.2.2.1
abbrev mJ (M : Mem) : Nat → Nat → Int64 := M.2.2.2.2.2
def u2 {α : Type} (f : Nat → Nat → α) (c i : Nat) (x : α) : Nat → Nat → α := fun c' i' => if c' = c ∧ i' = i then x else f c' i'
def stI (M : Mem) (c i : Nat) (x : Int32) : Mem := (M.1, M.2.1, mSh M, mR M, u2 (mI M) c i x, mJ M)
def stJ (M : Mem) (c i : Nat) (x : Int64) : Mem := (M.1, M.2.1, mSh M, mR M, mI M, u2 (mJ M) c i x)
def stR (M : Mem) (c i : Nat) (x : Option Nat) : Mem := (M.1, M.2.1, mSh M, u2 (mR M) c i x, mI M, mJ M)
def adr (G : Gx) (c : Nat) : Nat := if c < nS then G.2.2.2 c else G.2.2.1 + (c - nS)
def rA (G : Gx) : Nat → Prop := fun q => G.2.2.1 ≤ q
def fval (G : Gx) (M : Mem) (c f : Nat) (ty : FieldType) : Value := match ty with
  | .long => .long (mJ M c f)
  | .array _ => va_rf ((mR M c f).map (adr G))
  | .object _ => va_rf ((mR M c f).map (adr G))
  | _ => .int (mI M c f)
def fvals (G : Gx) (M : Mem) (c : Nat) : Nat → List FieldType → List Value
  | _, [] => []
  | f, ty :: r => fval G M c f ty :: fvals G M c (f + 1) r
def rowOf (G : Gx) (M : Mem) (c : Nat) (ty : FieldType) : (Nat → Int32) ⊕ (Nat → Int64) ⊕ (Nat → UInt32) ⊕ (Nat → UInt64) ⊕ (Nat → Option Nat) := match ty with
  | .long => .inr (.inl (mJ M c))
  | .array _ => .inr (.inr (.inr (.inr (fun i => (mR M c i).map (adr G)))))
  | .object _ => .inr (.inr (.inr (.inr (fun i => (mR M c i).map (adr G)))))
  | _ => .inl (mI M c)
def cont (G : Gx) (M : Mem) (c : Nat) : va_E := match mSh M c with
  | .inl (ty, n) => .inl (G.2.1 ty, n, rowOf G M c ty)
  | .inr ci => .inr (ci, fvals G M c 0 (cfT ci))
def Hold (G : Gx) (M : Mem) (H : Heap) : Prop := nS ≤ M.1 ∧ H.size = G.2.2.1 + (M.1 - nS) ∧ (∀ c, nS ≤ c → c < M.1 → va_at G.1 vwCl (adr G c, cont G M c) H) ∧ ∀ c, c < nS → ∃ (n : Nat) (cell : Cell), mSh M c = .inl (.int, n) ∧ H[adr G c]? = some cell ∧ cell.vm ≠ .unknown ∧ cell.slots.size = n ∧ ∀ j, j < n → cell.slots[j]? = some (.int (mI M c j))
def tysG (G : Gx) : List (ClassId × FieldType) := aTys.map (fun t => (G.2.1 t, t))
def AOA (U : State) : Prop := (Cond.arrayOver (.array .int)).before #[] U = true
/-- the tables, and the statics' own cells: what a state knows, and keeps -/
def Kn (G : Gx) (U : State) : Prop := va_K G.1 vwCl (tysG G) U ∧ (∀ c, c < nS → G.2.2.2 c < G.2.2.1) ∧ G.2.2.1 ≤ U.heap.size ∧ (∀ j C n d, sTab[j]? = some (C, n, d) → va_Z C n d (.ref (G.2.2.2 j)) (rA G) U U.heap) ∧ (∀ q ∈ lwN, va_Nw (.methodLinkNest q.1 q.2.1 q.2.2.1 q.2.2.2) U) ∧ va_AO "ChainBooks$Head" U ∧ AOA U ∧ ∀ c, c < nS → ∀ cell, U.heap[G.2.2.2 c]? = some cell → U.isArrayOf cell .int
abbrev xp (x : Cx) := x.1
abbrev xl (x : Cx) := x.2.1
abbrev xe (x : Cx) := x.2.2.1
abbrev xR (x : Cx) := x.2.2.2.1
abbrev xs (x : Cx) := x.2.2.2.2.1
abbrev xm (x : Cx) := x.2.2.2.2.2.1
abbrev xa (x : Cx) := x.2.2.2.2.2.2.1
abbrev xb (x : Cx) := x.2.2.2.2.2.2.2.1
abbrev xt (x : Cx) := x.2.2.2.2.2.2.2.2.1
abbrev xc (x : Cx) := x.2.2.2.2.2.2.2.2.2
abbrev WW (x : Cx) (H : Heap) (locs : List Loc) (cells slots : Nat) (Q : State → Prop) (g : JFrame) : Prop := W (xp x) (xl x) (xe x) (xR x) (xs x) (xm x) (xa x) (xb x) (xt x) (xc x) H locs cells slots Q g
/-- an activation: the machine's exec, the method's bytes, its locals, its class, the words, its name and what it returns -/
def Act (G : Gx) (x : Cx) (cc : ByteArray) (nL : Nat) (own : String) (ret : Option FieldType) (nm : String) : Prop :=
  (xp x).tables.exec = Jvm.exec ∧ (xc x).code = cc ∧ (xc x).maxLocals = nL ∧ (xs x).vm.findClass own = some (xm x).cls ∧ (∀ w ∈ lwT, w.before (xa x) (xs x) = true) ∧ (xt x).locks = false ∧ (xt x).sig.returnType = ret ∧ (xt x).name = nm ∧ Kn G (xs x)
/-- from pc with these locals, stack and memory the machine goes on to what k tells -/
def J (G : Gx) (l : Launch) (cc : ByteArray) (nL : Nat) (own : String) (ret : Option FieldType) (nm : String) (fr lc : Nat) {α : Type} (Q : Cx → Mem → α → Mem → State → Prop) (pc : Nat) (lv : List (Nat × Value)) (st : List Value) (M : Mem) (k : Option (α × Mem)) : Prop :=
  ∀ r Me, k = some (r, Me) → (M.1 ≤ Me.1 ∧ M.2.1 ≤ Me.2.1) ∧ ∀ (x : Cx) (M0 : Mem), xl x = l → Act G x cc nL own ret nm → fr ≤ (xR x).frames → lc ≤ (xR x).locals → M0.1 ≤ M.1 → M0.2.1 ≤ M.2.1 → Me.1 - M0.1 ≤ (xR x).cells → Me.2.1 - M0.2.1 ≤ (xR x).slots →
    ∀ H locs ls, Hold G M H → va_S (rA G) (xs x).heap H locs → lv_has ls nL lv → WW x H locs (M.1 - M0.1) (M.2.1 - M0.2.1) (Q x M0 r Me) (F0 (xm x) pc ls st)
section CoreA
variable {G : Gx} {l : Launch} {cc : ByteArray} {nL : Nat} {own : String} {ret : Option FieldType} {nm : String} {fr lc : Nat} {α : Type} {Q : Cx → Mem → α → Mem → State → Prop} {M M' : Mem} {pc pc' : Nat} {lv lv' : List (Nat × Value)} {st st' : List Value} {k k1 k2 : Option (α × Mem)}
theorem J_step (h : ∀ (x : Cx) (A : Act G x cc nL own ret nm) (H : Heap) (locs : List Loc) (ls : Array Slot) (cells slots : Nat) (Q' : State → Prop), lv_has ls nL lv → WW x H locs cells slots Q' (F0 (xm x) pc' ls st') → WW x H locs cells slots Q' (F0 (xm x) pc ls st))
    (k1 : J G l cc nL own ret nm fr lc Q pc' lv st' M k) : J G l cc nL own ret nm fr lc Q pc lv st M k := fun r Me e =>
  ⟨(k1 r Me e).1, fun x M0 e1 A f1 f2 a b c d H locs ls hH hS hl => h x A H locs ls _ _ _ hl ((k1 r Me e).2 x M0 e1 A f1 f2 a b c d H locs ls hH hS hl)⟩
theorem J_stepL (h : ∀ (x : Cx) (A : Act G x cc nL own ret nm) (H : Heap) (locs : List Loc) (ls : Array Slot) (cells slots : Nat) (Q' : State → Prop), lv_has ls nL lv → (∀ ls' : Array Slot, lv_has ls' nL lv' → WW x H locs cells slots Q' (F0 (xm x) pc' ls' st')) → WW x H locs cells slots Q' (F0 (xm x) pc ls st))
    (k1 : J G l cc nL own ret nm fr lc Q pc' lv' st' M k) : J G l cc nL own ret nm fr lc Q pc lv st M k := fun r Me e =>
  ⟨(k1 r Me e).1, fun x M0 e1 A f1 f2 a b c d H locs ls hH hS hl => h x A H locs ls _ _ _ hl (fun ls' hl' => (k1 r Me e).2 x M0 e1 A f1 f2 a b c d H locs ls' hH hS hl')⟩
theorem J_stepH (h : ∀ (x : Cx) (A : Act G x cc nL own ret nm) (H : Heap) (locs : List Loc) (ls : Array Slot) (cells slots : Nat) (Q' : State → Prop), Hold G M H → va_S (rA G) (xs x).heap H locs → lv_has ls nL lv → WW x H locs cells slots Q' (F0 (xm x) pc' ls st') → WW x H locs cells slots Q' (F0 (xm x) pc ls st))
    (k1 : J G l cc nL own ret nm fr lc Q pc' lv st' M k) : J G l cc nL own ret nm fr lc Q pc lv st M k := fun r Me e =>
  ⟨(k1 r Me e).1, fun x M0 e1 A f1 f2 a b c d H locs ls hH hS hl => h x A H locs ls _ _ _ hH hS hl ((k1 r Me e).2 x M0 e1 A f1 f2 a b c d H locs ls hH hS hl)⟩
theorem J_stepS (e1 : M'.1 = M.1) (e2 : M'.2.1 = M.2.1) (h : ∀ (x : Cx) (A : Act G x cc nL own ret nm) (H : Heap) (locs : List Loc) (ls : Array Slot) (cells slots : Nat) (Q' : State → Prop), Hold G M H → va_S (rA G) (xs x).heap H locs → lv_has ls nL lv → (∀ (H1 : Heap) (locs1 : List Loc), Hold G M' H1 → va_S (rA G) (xs x).heap H1 locs1 → WW x H1 locs1 cells slots Q' (F0 (xm x) pc' ls st')) → WW x H locs cells slots Q' (F0 (xm x) pc ls st))
    (k1 : J G l cc nL own ret nm fr lc Q pc' lv st' M' k) : J G l cc nL own ret nm fr lc Q pc lv st M k := by
  intro r Me e
  have q := k1 r Me e
  rw [e1, e2] at q
  exact ⟨q.1, fun x M0 e1 A f1 f2 a b c d H locs ls hH hS hl => h x A H locs ls _ _ _ hH hS hl (fun H1 locs1 hH1 hS1 => q.2 x M0 e1 A f1 f2 a b c d H1 locs1 ls hH1 hS1 hl)⟩
theorem J_none : J G l cc nL own ret nm fr lc Q pc lv st M none := fun r Me e => by cases e
theorem J_ite {c : Prop} [Decidable c] (h1 : c → J G l cc nL own ret nm fr lc Q pc lv st M k1) (h2 : ¬ c → J G l cc nL own ret nm fr lc Q pc lv st M k2) : J G l cc nL own ret nm fr lc Q pc lv st M (if c then k1 else k2) := by
  by_cases hc : c
  · rw [if_pos hc]; exact h1 hc
  · rw [if_neg hc]; exact h2 hc
theorem J_sub (ks : List Nat) (hl : lv_pick lv ks = lv') (k1 : J G l cc nL own ret nm fr lc Q pc lv' st M k) : J G l cc nL own ret nm fr lc Q pc lv st M k := fun r Me e =>
  ⟨(k1 r Me e).1, fun x M0 e1 A f1 f2 a b c d H locs ls hH hS h => (k1 r Me e).2 x M0 e1 A f1 f2 a b c d H locs ls hH hS (lv_sub h ks hl)⟩
-- constants, locals, stack, arithmetic
theorem J_iconst {n : Int} {v : Int32} (hdg : decode cc pc = .ok (.iconst n, 1)) (hv : Int32.ofInt n = v) (k1 : J G l cc nL own ret nm fr lc Q (pc + 1) lv (.int v :: st) M k) : J G l cc nL own ret nm fr lc Q pc lv st M k := J_step (fun x A _ _ _ _ _ _ _ w => lv_iconst A.1 A.2.1 hdg hv w) k1
theorem J_bipush {n : Int} {v : Int32} (hdg : decode cc pc = .ok (.bipush n, 2)) (hv : (Int8.ofInt n).toInt32 = v) (k1 : J G l cc nL own ret nm fr lc Q (pc + 2) lv (.int v :: st) M k) : J G l cc nL own ret nm fr lc Q pc lv st M k := J_step (fun x A _ _ _ _ _ _ _ w => lv_bipush A.1 A.2.1 hdg hv w) k1
theorem J_sipush {n : Int} {v : Int32} (hdg : decode cc pc = .ok (.sipush n, 3)) (hv : (Int16.ofInt n).toInt32 = v) (k1 : J G l cc nL own ret nm fr lc Q (pc + 3) lv (.int v :: st) M k) : J G l cc nL own ret nm fr lc Q pc lv st M k := J_step (fun x A _ _ _ _ _ _ _ w => lv_sipush A.1 A.2.1 hdg hv w) k1
theorem J_lconst {n : Fin 2} {v : Int64} (hdg : decode cc pc = .ok (.lconst n, 1)) (hv : Int64.ofNat (n : Nat) = v) (k1 : J G l cc nL own ret nm fr lc Q (pc + 1) lv (.long v :: st) M k) : J G l cc nL own ret nm fr lc Q pc lv st M k := J_step (fun x A _ _ _ _ _ _ _ w => lv_lconst A.1 A.2.1 hdg hv w) k1
theorem J_ldc {i : Nat} {v : Int32} (hdg : decode cc pc = .ok (.ldc i, 2)) (hw : Cond.constant own i v ∈ lwT) (k1 : J G l cc nL own ret nm fr lc Q (pc + 2) lv (.int v :: st) M k) : J G l cc nL own ret nm fr lc Q pc lv st M k := J_step (fun x A _ _ _ _ _ _ _ w => lv_ldc A.1 A.2.1 A.2.2.2.1 (A.2.2.2.2.1 _ hw) hdg w) k1
theorem J_ldcw {i : Nat} {v : Int32} (hdg : decode cc pc = .ok (.ldc_w i, 3)) (hw : Cond.constant own i v ∈ lwT) (k1 : J G l cc nL own ret nm fr lc Q (pc + 3) lv (.int v :: st) M k) : J G l cc nL own ret nm fr lc Q pc lv st M k := J_step (fun x A _ _ _ _ _ _ _ w => lv_ldcw A.1 A.2.1 A.2.2.2.1 (A.2.2.2.2.1 _ hw) hdg w) k1
theorem J_ldc2 {i : Nat} {v : Int64} (hdg : decode cc pc = .ok (.ldc2_w i, 3)) (hw : Cond.constantLong own i v ∈ lwT) (k1 : J G l cc nL own ret nm fr lc Q (pc + 3) lv (.long v :: st) M k) : J G l cc nL own ret nm fr lc Q pc lv st M k := J_step (fun x A _ _ _ _ _ _ _ w => lv_ldc2 A.1 A.2.1 A.2.2.2.1 (A.2.2.2.2.1 _ hw) hdg w) k1
theorem J_iload_n {i : Fin 4} {v : Int32} (hdg : decode cc pc = .ok (.iload_n i, 1)) (q : Nat) (hq : lv[q]? = some ((i : Nat), .int v)) (k1 : J G l cc nL own ret nm fr lc Q (pc + 1) lv (.int v :: st) M k) : J G l cc nL own ret nm fr lc Q pc lv st M k := J_step (fun x A _ _ _ _ _ _ hl w => lv_iload_n A.1 A.2.1 hdg rfl (lv_at hl q hq) w) k1
theorem J_iload {i : Nat} {v : Int32} (hdg : decode cc pc = .ok (.iload i, 2)) (q : Nat) (hq : lv[q]? = some (i, .int v)) (k1 : J G l cc nL own ret nm fr lc Q (pc + 2) lv (.int v :: st) M k) : J G l cc nL own ret nm fr lc Q pc lv st M k := J_step (fun x A _ _ _ _ _ _ hl w => lv_iload A.1 A.2.1 hdg (lv_at hl q hq) w) k1
theorem J_lload_n {i : Fin 4} {v : Int64} (hdg : decode cc pc = .ok (.lload_n i, 1)) (q : Nat) (hq : lv[q]? = some ((i : Nat), .long v)) (k1 : J G l cc nL own ret nm fr lc Q (pc + 1) lv (.long v :: st) M k) : J G l cc nL own ret nm fr lc Q pc lv st M k := J_step (fun x A _ _ _ _ _ _ hl w => lv_lload_n A.1 A.2.1 hdg rfl (lv_at hl q hq) w) k1
theorem J_lload {i : Nat} {v : Int64} (hdg : decode cc pc = .ok (.lload i, 2)) (q : Nat) (hq : lv[q]? = some (i, .long v)) (k1 : J G l cc nL own ret nm fr lc Q (pc + 2) lv (.long v :: st) M k) : J G l cc nL own ret nm fr lc Q pc lv st M k := J_step (fun x A _ _ _ _ _ _ hl w => lv_lload A.1 A.2.1 hdg (lv_at hl q hq) w) k1
theorem J_aload_n {i : Fin 4} {v : Nat} (hdg : decode cc pc = .ok (.aload_n i, 1)) (q : Nat) (hq : lv[q]? = some ((i : Nat), .ref v)) (k1 : J G l cc nL own ret nm fr lc Q (pc + 1) lv (.ref v :: st) M k) : J G l cc nL own ret nm fr lc Q pc lv st M k := J_step (fun x A _ _ _ _ _ _ hl w => lv_aload_n A.1 A.2.1 hdg rfl (lv_at hl q hq) w) k1
theorem J_aload {i : Nat} {v : Nat} (hdg : decode cc pc = .ok (.aload i, 2)) (q : Nat) (hq : lv[q]? = some (i, .ref v)) (k1 : J G l cc nL own ret nm fr lc Q (pc + 2) lv (.ref v :: st) M k) : J G l cc nL own ret nm fr lc Q pc lv st M k := J_step (fun x A _ _ _ _ _ _ hl w => lv_aload A.1 A.2.1 hdg (lv_at hl q hq) w) k1
theorem J_istore_n {i : Fin 4} {v : Int32} (hdg : decode cc pc = .ok (.istore_n i, 1)) (hn : (i : Nat) < nL) (hl : ((i : Nat), Value.int v) :: lv.filter (fun q => !(q.1 == (i : Nat)) && !(q.1 + 1 == (i : Nat) && q.2.category == 2)) = lv') (k1 : J G l cc nL own ret nm fr lc Q (pc + 1) lv' st M k) : J G l cc nL own ret nm fr lc Q pc lv (.int v :: st) M k := J_stepL (fun x A _ _ _ _ _ _ h w => lv_istore_n A.1 A.2.1 hdg rfl h hn hl w) k1
theorem J_istore {i : Nat} {v : Int32} (hdg : decode cc pc = .ok (.istore i, 2)) (hn : i < nL) (hl : (i, Value.int v) :: lv.filter (fun q => !(q.1 == i) && !(q.1 + 1 == i && q.2.category == 2)) = lv') (k1 : J G l cc nL own ret nm fr lc Q (pc + 2) lv' st M k) : J G l cc nL own ret nm fr lc Q pc lv (.int v :: st) M k := J_stepL (fun x A _ _ _ _ _ _ h w => lv_istore A.1 A.2.1 hdg h hn hl w) k1
theorem J_astore_n {i : Fin 4} {v : Nat} (hdg : decode cc pc = .ok (.astore_n i, 1)) (hn : (i : Nat) < nL) (hl : ((i : Nat), Value.ref v) :: lv.filter (fun q => !(q.1 == (i : Nat)) && !(q.1 + 1 == (i : Nat) && q.2.category == 2)) = lv') (k1 : J G l cc nL own ret nm fr lc Q (pc + 1) lv' st M k) : J G l cc nL own ret nm fr lc Q pc lv (.ref v :: st) M k := J_stepL (fun x A _ _ _ _ _ _ h w => lv_astore_n A.1 A.2.1 hdg rfl h hn hl w) k1
theorem J_astore {i : Nat} {v : Nat} (hdg : decode cc pc = .ok (.astore i, 2)) (hn : i < nL) (hl : (i, Value.ref v) :: lv.filter (fun q => !(q.1 == i) && !(q.1 + 1 == i && q.2.category == 2)) = lv') (k1 : J G l cc nL own ret nm fr lc Q (pc + 2) lv' st M k) : J G l cc nL own ret nm fr lc Q pc lv (.ref v :: st) M k := J_stepL (fun x A _ _ _ _ _ _ h w => lv_astore A.1 A.2.1 hdg h hn hl w) k1
theorem J_lstore_n {i : Fin 4} {v : Int64} (hdg : decode cc pc = .ok (.lstore_n i, 1)) (hn : (i : Nat) + 1 < nL) (hl : ((i : Nat), Value.long v) :: lv.filter (fun q => !(q.1 == (i : Nat)) && (!(q.1 == (i : Nat) + 1) && !(q.1 + 1 == (i : Nat) && q.2.category == 2))) = lv') (k1 : J G l cc nL own ret nm fr lc Q (pc + 1) lv' st M k) : J G l cc nL own ret nm fr lc Q pc lv (.long v :: st) M k := J_stepL (fun x A _ _ _ _ _ _ h w => lv_lstore_n A.1 A.2.1 hdg rfl h hn hl w) k1
theorem J_lstore {i : Nat} {v : Int64} (hdg : decode cc pc = .ok (.lstore i, 2)) (hn : i + 1 < nL) (hl : (i, Value.long v) :: lv.filter (fun q => !(q.1 == i) && (!(q.1 == i + 1) && !(q.1 + 1 == i && q.2.category == 2))) = lv') (k1 : J G l cc nL own ret nm fr lc Q (pc + 2) lv' st M k) : J G l cc nL own ret nm fr lc Q pc lv (.long v :: st) M k := J_stepL (fun x A _ _ _ _ _ _ h w => lv_lstore A.1 A.2.1 hdg h hn hl w) k1
theorem J_iinc {i : Nat} {n : Int} {v z : Int32} (hdg : decode cc pc = .ok (.iinc i n, 3)) (q : Nat) (hq : lv[q]? = some (i, .int v)) (hv : v + Int32.ofInt n = z) (hn : i < nL) (hl : (i, Value.int z) :: lv.filter (fun q => !(q.1 == i) && !(q.1 + 1 == i && q.2.category == 2)) = lv') (k1 : J G l cc nL own ret nm fr lc Q (pc + 3) lv' st M k) : J G l cc nL own ret nm fr lc Q pc lv st M k := J_stepL (fun x A _ _ _ _ _ _ h w => lv_iinc A.1 A.2.1 hdg h hq hv hn hl w) k1
theorem J_pop {v : Value} (hdg : decode cc pc = .ok (.pop, 1)) (hv : v.category = 1) (k1 : J G l cc nL own ret nm fr lc Q (pc + 1) lv st M k) : J G l cc nL own ret nm fr lc Q pc lv (v :: st) M k := J_step (fun x A _ _ _ _ _ _ _ w => lv_pop A.1 A.2.1 hdg hv w) k1
theorem J_dup {v : Value} (hdg : decode cc pc = .ok (.dup, 1)) (hv : v.category = 1) (k1 : J G l cc nL own ret nm fr lc Q (pc + 1) lv (v :: v :: st) M k) : J G l cc nL own ret nm fr lc Q pc lv (v :: st) M k := J_step (fun x A _ _ _ _ _ _ _ w => lv_dup A.1 A.2.1 hdg hv w) k1
theorem J_dup2 {v z : Value} (hdg : decode cc pc = .ok (.dup2, 1)) (hv : v.category = 1) (hz : z.category = 1) (k1 : J G l cc nL own ret nm fr lc Q (pc + 1) lv (v :: z :: v :: z :: st) M k) : J G l cc nL own ret nm fr lc Q pc lv (v :: z :: st) M k := J_step (fun x A _ _ _ _ _ _ _ w => lv_dup2_11 A.1 A.2.1 hdg hv hz w) k1
theorem J_iadd {a b : Int32} (hdg : decode cc pc = .ok (.iadd, 1)) (k1 : J G l cc nL own ret nm fr lc Q (pc + 1) lv (.int (a + b) :: st) M k) : J G l cc nL own ret nm fr lc Q pc lv (.int b :: .int a :: st) M k := J_step (fun x A _ _ _ _ _ _ _ w => lv_iadd A.1 A.2.1 hdg w) k1
theorem J_isub {a b : Int32} (hdg : decode cc pc = .ok (.isub, 1)) (k1 : J G l cc nL own ret nm fr lc Q (pc + 1) lv (.int (a - b) :: st) M k) : J G l cc nL own ret nm fr lc Q pc lv (.int b :: .int a :: st) M k := J_step (fun x A _ _ _ _ _ _ _ w => lv_isub A.1 A.2.1 hdg w) k1
theorem J_imul {a b : Int32} (hdg : decode cc pc = .ok (.imul, 1)) (k1 : J G l cc nL own ret nm fr lc Q (pc + 1) lv (.int (a * b) :: st) M k) : J G l cc nL own ret nm fr lc Q pc lv (.int b :: .int a :: st) M k := J_step (fun x A _ _ _ _ _ _ _ w => lv_imul A.1 A.2.1 hdg w) k1
theorem J_iand {a b : Int32} (hdg : decode cc pc = .ok (.iand, 1)) (k1 : J G l cc nL own ret nm fr lc Q (pc + 1) lv (.int (a &&& b) :: st) M k) : J G l cc nL own ret nm fr lc Q pc lv (.int b :: .int a :: st) M k := J_step (fun x A _ _ _ _ _ _ _ w => lv_iand A.1 A.2.1 hdg w) k1
theorem J_ior {a b : Int32} (hdg : decode cc pc = .ok (.ior, 1)) (k1 : J G l cc nL own ret nm fr lc Q (pc + 1) lv (.int (a ||| b) :: st) M k) : J G l cc nL own ret nm fr lc Q pc lv (.int b :: .int a :: st) M k := J_step (fun x A _ _ _ _ _ _ _ w => lv_ior A.1 A.2.1 hdg w) k1
theorem J_ixor {a b : Int32} (hdg : decode cc pc = .ok (.ixor, 1)) (k1 : J G l cc nL own ret nm fr lc Q (pc + 1) lv (.int (a ^^^ b) :: st) M k) : J G l cc nL own ret nm fr lc Q pc lv (.int b :: .int a :: st) M k := J_step (fun x A _ _ _ _ _ _ _ w => lv_ixor A.1 A.2.1 hdg w) k1
theorem J_ishl {a b : Int32} (hdg : decode cc pc = .ok (.ishl, 1)) (k1 : J G l cc nL own ret nm fr lc Q (pc + 1) lv (.int (a <<< (b &&& 31)) :: st) M k) : J G l cc nL own ret nm fr lc Q pc lv (.int b :: .int a :: st) M k := J_step (fun x A _ _ _ _ _ _ _ w => lv_ishl A.1 A.2.1 hdg w) k1
theorem J_ishr {a b : Int32} (hdg : decode cc pc = .ok (.ishr, 1)) (k1 : J G l cc nL own ret nm fr lc Q (pc + 1) lv (.int (a >>> (b &&& 31)) :: st) M k) : J G l cc nL own ret nm fr lc Q pc lv (.int b :: .int a :: st) M k := J_step (fun x A _ _ _ _ _ _ _ w => lv_ishr A.1 A.2.1 hdg w) k1
theorem J_ladd {a b : Int64} (hdg : decode cc pc = .ok (.ladd, 1)) (k1 : J G l cc nL own ret nm fr lc Q (pc + 1) lv (.long (a + b) :: st) M k) : J G l cc nL own ret nm fr lc Q pc lv (.long b :: .long a :: st) M k := J_step (fun x A _ _ _ _ _ _ _ w => lv_ladd A.1 A.2.1 hdg w) k1
theorem J_lsub {a b : Int64} (hdg : decode cc pc = .ok (.lsub, 1)) (k1 : J G l cc nL own ret nm fr lc Q (pc + 1) lv (.long (a - b) :: st) M k) : J G l cc nL own ret nm fr lc Q pc lv (.long b :: .long a :: st) M k := J_step (fun x A _ _ _ _ _ _ _ w => lv_lsub A.1 A.2.1 hdg w) k1
theorem J_lmul {a b : Int64} (hdg : decode cc pc = .ok (.lmul, 1)) (k1 : J G l cc nL own ret nm fr lc Q (pc + 1) lv (.long (a * b) :: st) M k) : J G l cc nL own ret nm fr lc Q pc lv (.long b :: .long a :: st) M k := J_step (fun x A _ _ _ _ _ _ _ w => lv_lmul A.1 A.2.1 hdg w) k1
theorem J_land {a b : Int64} (hdg : decode cc pc = .ok (.land, 1)) (k1 : J G l cc nL own ret nm fr lc Q (pc + 1) lv (.long (a &&& b) :: st) M k) : J G l cc nL own ret nm fr lc Q pc lv (.long b :: .long a :: st) M k := J_step (fun x A _ _ _ _ _ _ _ w => lv_land A.1 A.2.1 hdg w) k1
theorem J_lor {a b : Int64} (hdg : decode cc pc = .ok (.lor, 1)) (k1 : J G l cc nL own ret nm fr lc Q (pc + 1) lv (.long (a ||| b) :: st) M k) : J G l cc nL own ret nm fr lc Q pc lv (.long b :: .long a :: st) M k := J_step (fun x A _ _ _ _ _ _ _ w => lv_lor A.1 A.2.1 hdg w) k1
theorem J_lxor {a b : Int64} (hdg : decode cc pc = .ok (.lxor, 1)) (k1 : J G l cc nL own ret nm fr lc Q (pc + 1) lv (.long (a ^^^ b) :: st) M k) : J G l cc nL own ret nm fr lc Q pc lv (.long b :: .long a :: st) M k := J_step (fun x A _ _ _ _ _ _ _ w => lv_lxor A.1 A.2.1 hdg w) k1
theorem J_lneg {a : Int64} (hdg : decode cc pc = .ok (.lneg, 1)) (k1 : J G l cc nL own ret nm fr lc Q (pc + 1) lv (.long (0 - a) :: st) M k) : J G l cc nL own ret nm fr lc Q pc lv (.long a :: st) M k := J_step (fun x A _ _ _ _ _ _ _ w => lv_lneg A.1 A.2.1 hdg (by first | exact w | (rw [Int64.zero_sub] at w; exact w))) k1
theorem J_iushr {a b : Int32} (hdg : decode cc pc = .ok (.iushr, 1)) (k1 : J G l cc nL own ret nm fr lc Q (pc + 1) lv (.int ((a.toUInt32 >>> (b.toUInt32 &&& Int32.toUInt32 31)).toInt32) :: st) M k) : J G l cc nL own ret nm fr lc Q pc lv (.int b :: .int a :: st) M k := J_step (fun x A _ _ _ _ _ _ _ w => lv_iushr A.1 A.2.1 hdg rfl w) k1
theorem J_lushr {a : Int64} {b : Int32} (hdg : decode cc pc = .ok (.lushr, 1)) (k1 : J G l cc nL own ret nm fr lc Q (pc + 1) lv (.long ((a.toUInt64 >>> (b.toInt64.toUInt64 &&& Int64.toUInt64 63)).toInt64) :: st) M k) : J G l cc nL own ret nm fr lc Q pc lv (.int b :: .long a :: st) M k := J_step (fun x A _ _ _ _ _ _ _ w => lv_lushr A.1 A.2.1 hdg rfl w) k1
theorem J_lshl {a : Int64} {b : Int32} (hdg : decode cc pc = .ok (.lshl, 1)) (k1 : J G l cc nL own ret nm fr lc Q (pc + 1) lv (.long (a <<< (b.toInt64 &&& 63)) :: st) M k) : J G l cc nL own ret nm fr lc Q pc lv (.int b :: .long a :: st) M k := J_step (fun x A _ _ _ _ _ _ _ w => lv_lshl A.1 A.2.1 hdg rfl w) k1
theorem J_lshr {a : Int64} {b : Int32} (hdg : decode cc pc = .ok (.lshr, 1)) (k1 : J G l cc nL own ret nm fr lc Q (pc + 1) lv (.long (a >>> (b.toInt64 &&& 63)) :: st) M k) : J G l cc nL own ret nm fr lc Q pc lv (.int b :: .long a :: st) M k := J_step (fun x A _ _ _ _ _ _ _ w => lv_lshr A.1 A.2.1 hdg rfl w) k1
theorem J_i2l {a : Int32} (hdg : decode cc pc = .ok (.i2l, 1)) (k1 : J G l cc nL own ret nm fr lc Q (pc + 1) lv (.long a.toInt64 :: st) M k) : J G l cc nL own ret nm fr lc Q pc lv (.int a :: st) M k := J_step (fun x A _ _ _ _ _ _ _ w => lv_i2l A.1 A.2.1 hdg rfl w) k1
theorem J_l2i {a : Int64} (hdg : decode cc pc = .ok (.l2i, 1)) (k1 : J G l cc nL own ret nm fr lc Q (pc + 1) lv (.int a.toInt32 :: st) M k) : J G l cc nL own ret nm fr lc Q pc lv (.long a :: st) M k := J_step (fun x A _ _ _ _ _ _ _ w => lv_l2i A.1 A.2.1 hdg rfl w) k1
theorem J_i2b {a : Int32} (hdg : decode cc pc = .ok (.i2b, 1)) (k1 : J G l cc nL own ret nm fr lc Q (pc + 1) lv (.int a.toInt8.toInt32 :: st) M k) : J G l cc nL own ret nm fr lc Q pc lv (.int a :: st) M k := J_step (fun x A _ _ _ _ _ _ _ w => lv_i2b A.1 A.2.1 hdg rfl w) k1
theorem J_i2s {a : Int32} (hdg : decode cc pc = .ok (.i2s, 1)) (k1 : J G l cc nL own ret nm fr lc Q (pc + 1) lv (.int a.toInt16.toInt32 :: st) M k) : J G l cc nL own ret nm fr lc Q pc lv (.int a :: st) M k := J_step (fun x A _ _ _ _ _ _ _ w => lv_i2s A.1 A.2.1 hdg rfl w) k1
theorem J_lcmp {a b : Int64} (hdg : decode cc pc = .ok (.lcmp, 1)) (k1 : J G l cc nL own ret nm fr lc Q (pc + 1) lv (.int (lg_cmp a b) :: st) M k) : J G l cc nL own ret nm fr lc Q pc lv (.long b :: .long a :: st) M k := J_step (fun x A _ _ _ _ _ _ _ w => W.lcmp A.1 A.2.1 hdg w) k1
theorem J_idiv {a b : Int32} (hdg : decode cc pc = .ok (.idiv, 1)) (k1 : J G l cc nL own ret nm fr lc Q (pc + 1) lv (.int (a / b) :: st) M k) : J G l cc nL own ret nm fr lc Q pc lv (.int b :: .int a :: st) M (if b = 0 then none else k) := J_ite (fun _ => J_none) (fun h => J_step (fun x A _ _ _ _ _ _ _ w => lv_idiv A.1 A.2.1 hdg h w) k1)
theorem J_irem {a b : Int32} (hdg : decode cc pc = .ok (.irem, 1)) (k1 : J G l cc nL own ret nm fr lc Q (pc + 1) lv (.int (a - a / b * b) :: st) M k) : J G l cc nL own ret nm fr lc Q pc lv (.int b :: .int a :: st) M (if b = 0 then none else k) := J_ite (fun _ => J_none) (fun h => J_step (fun x A _ _ _ _ _ _ _ w => lv_irem A.1 A.2.1 hdg h w) k1)
theorem J_goto {off : Int} {tgt : Nat} (hdg : decode cc pc = .ok (.goto off, 3)) (ht : (pc : Int) + off = (tgt : Int)) (k1 : J G l cc nL own ret nm fr lc Q tgt lv st M k) : J G l cc nL own ret nm fr lc Q pc lv st M k := J_step (fun x A _ _ _ _ _ _ _ w => lv_goto A.1 A.2.1 hdg ht w) k1
theorem J_tabO {dflt lo hi : Int} {offs : Array Int} {len : Nat} {v : Int32} {tgt : Nat} (hdg : decode cc pc = .ok (.tableswitch dflt lo hi offs, len)) (h : v.toInt < lo ∨ hi < v.toInt) (ht : (pc : Int) + dflt = (tgt : Int)) (k1 : J G l cc nL own ret nm fr lc Q tgt lv st M k) : J G l cc nL own ret nm fr lc Q pc lv (.int v :: st) M k := J_step (fun x A _ _ _ _ _ _ _ w => lv_tableOut A.1 A.2.1 hdg h ht w) k1
theorem J_tabI {dflt lo hi : Int} {offs : Array Int} {len : Nat} {v : Int32} {off : Int} {tgt : Nat} (hdg : decode cc pc = .ok (.tableswitch dflt lo hi offs, len)) (h1 : ¬ v.toInt < lo) (h2 : ¬ hi < v.toInt) (ho : offs[(v.toInt - lo).toNat]? = some off) (ht : (pc : Int) + off = (tgt : Int)) (k1 : J G l cc nL own ret nm fr lc Q tgt lv st M k) : J G l cc nL own ret nm fr lc Q pc lv (.int v :: st) M k := J_step (fun x A _ _ _ _ _ _ _ w => lv_tableIn A.1 A.2.1 hdg h1 h2 ho ht w) k1
end CoreA
end
section
theorem ite_iff {α : Type} {c d : Prop} [Decidable c] [Decidable d] {a b : α} (h : c ↔ d) : (if c then a else b) = (if d then a else b) := by
  by_cases q : c
  · rw [if_pos q, if_pos (h.mp q)]
  · rw [if_neg q, if_neg (fun z => q (h.mpr z))]
section CoreB
variable {G : Gx} {l : Launch} {cc : ByteArray} {nL : Nat} {own : String} {ret : Option FieldType} {nm : String} {fr lc : Nat} {α : Type} {Q : Cx → Mem → α → Mem → State → Prop} {M M' : Mem} {pc pc' : Nat} {lv lv' : List (Nat × Value)} {st st' : List Value} {k k1 k2 : Option (α × Mem)}
theorem J_if_eq {a : Int32} {off : Int} {tgt : Nat} (hdg : decode cc pc = .ok (.ifCond .eq off, 3)) (ht : (pc : Int) + off = (tgt : Int)) (h1 : J G l cc nL own ret nm fr lc Q tgt lv st M k1) (h2 : J G l cc nL own ret nm fr lc Q (pc + 3) lv st M k2) : J G l cc nL own ret nm fr lc Q pc lv (.int a :: st) M (if a = 0 then k1 else k2) := J_ite (fun h => J_step (fun x A _ _ _ _ _ _ _ w => lv_if_eq A.1 A.2.1 hdg ht (fun _ => w) (fun n => absurd h n)) h1) (fun h => J_step (fun x A _ _ _ _ _ _ _ w => lv_if_eq A.1 A.2.1 hdg ht (fun n => absurd n h) (fun _ => w)) h2)
theorem J_icmp_eq {a b : Int32} {off : Int} {tgt : Nat} (hdg : decode cc pc = .ok (.if_icmp .eq off, 3)) (ht : (pc : Int) + off = (tgt : Int)) (h1 : J G l cc nL own ret nm fr lc Q tgt lv st M k1) (h2 : J G l cc nL own ret nm fr lc Q (pc + 3) lv st M k2) : J G l cc nL own ret nm fr lc Q pc lv (.int b :: .int a :: st) M (if a = b then k1 else k2) := J_ite (fun h => J_step (fun x A _ _ _ _ _ _ _ w => lv_icmp_eq A.1 A.2.1 hdg ht (fun _ => w) (fun n => absurd h n)) h1) (fun h => J_step (fun x A _ _ _ _ _ _ _ w => lv_icmp_eq A.1 A.2.1 hdg ht (fun n => absurd n h) (fun _ => w)) h2)
theorem J_lcmp_eq {a b : Int64} {off : Int} {tgt : Nat} (hdl : decode cc pc = .ok (.lcmp, 1)) (hdg : decode cc (pc + 1) = .ok (.ifCond .eq off, 3)) (ht : ((pc + 1 : Nat) : Int) + off = (tgt : Int)) (h1 : J G l cc nL own ret nm fr lc Q tgt lv st M k1) (h2 : J G l cc nL own ret nm fr lc Q (pc + 1 + 3) lv st M k2) : J G l cc nL own ret nm fr lc Q pc lv (.long b :: .long a :: st) M (if a = b then k1 else k2) := by
  have q := J_lcmp hdl (a := a) (b := b) (J_if_eq hdg ht h1 h2)
  rw [show (if lg_cmp a b = 0 then k1 else k2) = (if a = b then k1 else k2) from ite_iff (lg_cmp_eq a b)] at q
  exact q
theorem J_if_ne {a : Int32} {off : Int} {tgt : Nat} (hdg : decode cc pc = .ok (.ifCond .ne off, 3)) (ht : (pc : Int) + off = (tgt : Int)) (h1 : J G l cc nL own ret nm fr lc Q tgt lv st M k1) (h2 : J G l cc nL own ret nm fr lc Q (pc + 3) lv st M k2) : J G l cc nL own ret nm fr lc Q pc lv (.int a :: st) M (if a = 0 then k2 else k1) := J_ite (fun h => J_step (fun x A _ _ _ _ _ _ _ w => lv_if_ne A.1 A.2.1 hdg ht (fun n => absurd h n) (fun _ => w)) h2) (fun h => J_step (fun x A _ _ _ _ _ _ _ w => lv_if_ne A.1 A.2.1 hdg ht (fun _ => w) (fun n => absurd n h)) h1)
theorem J_icmp_ne {a b : Int32} {off : Int} {tgt : Nat} (hdg : decode cc pc = .ok (.if_icmp .ne off, 3)) (ht : (pc : Int) + off = (tgt : Int)) (h1 : J G l cc nL own ret nm fr lc Q tgt lv st M k1) (h2 : J G l cc nL own ret nm fr lc Q (pc + 3) lv st M k2) : J G l cc nL own ret nm fr lc Q pc lv (.int b :: .int a :: st) M (if a = b then k2 else k1) := J_ite (fun h => J_step (fun x A _ _ _ _ _ _ _ w => lv_icmp_ne A.1 A.2.1 hdg ht (fun n => absurd h n) (fun _ => w)) h2) (fun h => J_step (fun x A _ _ _ _ _ _ _ w => lv_icmp_ne A.1 A.2.1 hdg ht (fun _ => w) (fun n => absurd n h)) h1)
theorem J_lcmp_ne {a b : Int64} {off : Int} {tgt : Nat} (hdl : decode cc pc = .ok (.lcmp, 1)) (hdg : decode cc (pc + 1) = .ok (.ifCond .ne off, 3)) (ht : ((pc + 1 : Nat) : Int) + off = (tgt : Int)) (h1 : J G l cc nL own ret nm fr lc Q tgt lv st M k1) (h2 : J G l cc nL own ret nm fr lc Q (pc + 1 + 3) lv st M k2) : J G l cc nL own ret nm fr lc Q pc lv (.long b :: .long a :: st) M (if a = b then k2 else k1) := by
  have q := J_lcmp hdl (a := a) (b := b) (J_if_ne hdg ht h1 h2)
  rw [show (if lg_cmp a b = 0 then k2 else k1) = (if a = b then k2 else k1) from ite_iff (lg_cmp_eq a b)] at q
  exact q
theorem J_if_lt {a : Int32} {off : Int} {tgt : Nat} (hdg : decode cc pc = .ok (.ifCond .lt off, 3)) (ht : (pc : Int) + off = (tgt : Int)) (h1 : J G l cc nL own ret nm fr lc Q tgt lv st M k1) (h2 : J G l cc nL own ret nm fr lc Q (pc + 3) lv st M k2) : J G l cc nL own ret nm fr lc Q pc lv (.int a :: st) M (if a < 0 then k1 else k2) := J_ite (fun h => J_step (fun x A _ _ _ _ _ _ _ w => lv_if_lt A.1 A.2.1 hdg ht (fun _ => w) (fun n => absurd h n)) h1) (fun h => J_step (fun x A _ _ _ _ _ _ _ w => lv_if_lt A.1 A.2.1 hdg ht (fun n => absurd n h) (fun _ => w)) h2)
theorem J_icmp_lt {a b : Int32} {off : Int} {tgt : Nat} (hdg : decode cc pc = .ok (.if_icmp .lt off, 3)) (ht : (pc : Int) + off = (tgt : Int)) (h1 : J G l cc nL own ret nm fr lc Q tgt lv st M k1) (h2 : J G l cc nL own ret nm fr lc Q (pc + 3) lv st M k2) : J G l cc nL own ret nm fr lc Q pc lv (.int b :: .int a :: st) M (if a < b then k1 else k2) := J_ite (fun h => J_step (fun x A _ _ _ _ _ _ _ w => lv_icmp_lt A.1 A.2.1 hdg ht (fun _ => w) (fun n => absurd h n)) h1) (fun h => J_step (fun x A _ _ _ _ _ _ _ w => lv_icmp_lt A.1 A.2.1 hdg ht (fun n => absurd n h) (fun _ => w)) h2)
theorem J_lcmp_lt {a b : Int64} {off : Int} {tgt : Nat} (hdl : decode cc pc = .ok (.lcmp, 1)) (hdg : decode cc (pc + 1) = .ok (.ifCond .lt off, 3)) (ht : ((pc + 1 : Nat) : Int) + off = (tgt : Int)) (h1 : J G l cc nL own ret nm fr lc Q tgt lv st M k1) (h2 : J G l cc nL own ret nm fr lc Q (pc + 1 + 3) lv st M k2) : J G l cc nL own ret nm fr lc Q pc lv (.long b :: .long a :: st) M (if a < b then k1 else k2) := by
  have q := J_lcmp hdl (a := a) (b := b) (J_if_lt hdg ht h1 h2)
  rw [show (if lg_cmp a b < 0 then k1 else k2) = (if a < b then k1 else k2) from ite_iff (lg_cmp_lt a b)] at q
  exact q
theorem J_if_ge {a : Int32} {off : Int} {tgt : Nat} (hdg : decode cc pc = .ok (.ifCond .ge off, 3)) (ht : (pc : Int) + off = (tgt : Int)) (h1 : J G l cc nL own ret nm fr lc Q tgt lv st M k1) (h2 : J G l cc nL own ret nm fr lc Q (pc + 3) lv st M k2) : J G l cc nL own ret nm fr lc Q pc lv (.int a :: st) M (if 0 ≤ a then k1 else k2) := J_ite (fun h => J_step (fun x A _ _ _ _ _ _ _ w => lv_if_ge A.1 A.2.1 hdg ht (fun _ => w) (fun n => absurd h n)) h1) (fun h => J_step (fun x A _ _ _ _ _ _ _ w => lv_if_ge A.1 A.2.1 hdg ht (fun n => absurd n h) (fun _ => w)) h2)
theorem J_icmp_ge {a b : Int32} {off : Int} {tgt : Nat} (hdg : decode cc pc = .ok (.if_icmp .ge off, 3)) (ht : (pc : Int) + off = (tgt : Int)) (h1 : J G l cc nL own ret nm fr lc Q tgt lv st M k1) (h2 : J G l cc nL own ret nm fr lc Q (pc + 3) lv st M k2) : J G l cc nL own ret nm fr lc Q pc lv (.int b :: .int a :: st) M (if b ≤ a then k1 else k2) := J_ite (fun h => J_step (fun x A _ _ _ _ _ _ _ w => lv_icmp_ge A.1 A.2.1 hdg ht (fun _ => w) (fun n => absurd h n)) h1) (fun h => J_step (fun x A _ _ _ _ _ _ _ w => lv_icmp_ge A.1 A.2.1 hdg ht (fun n => absurd n h) (fun _ => w)) h2)
theorem J_lcmp_ge {a b : Int64} {off : Int} {tgt : Nat} (hdl : decode cc pc = .ok (.lcmp, 1)) (hdg : decode cc (pc + 1) = .ok (.ifCond .ge off, 3)) (ht : ((pc + 1 : Nat) : Int) + off = (tgt : Int)) (h1 : J G l cc nL own ret nm fr lc Q tgt lv st M k1) (h2 : J G l cc nL own ret nm fr lc Q (pc + 1 + 3) lv st M k2) : J G l cc nL own ret nm fr lc Q pc lv (.long b :: .long a :: st) M (if b ≤ a then k1 else k2) := by
  have q := J_lcmp hdl (a := a) (b := b) (J_if_ge hdg ht h1 h2)
  rw [show (if 0 ≤ lg_cmp a b then k1 else k2) = (if b ≤ a then k1 else k2) from ite_iff (lg_cmp_ge a b)] at q
  exact q
theorem J_if_gt {a : Int32} {off : Int} {tgt : Nat} (hdg : decode cc pc = .ok (.ifCond .gt off, 3)) (ht : (pc : Int) + off = (tgt : Int)) (h1 : J G l cc nL own ret nm fr lc Q tgt lv st M k1) (h2 : J G l cc nL own ret nm fr lc Q (pc + 3) lv st M k2) : J G l cc nL own ret nm fr lc Q pc lv (.int a :: st) M (if 0 < a then k1 else k2) := J_ite (fun h => J_step (fun x A _ _ _ _ _ _ _ w => lv_if_gt A.1 A.2.1 hdg ht (fun _ => w) (fun n => absurd h n)) h1) (fun h => J_step (fun x A _ _ _ _ _ _ _ w => lv_if_gt A.1 A.2.1 hdg ht (fun n => absurd n h) (fun _ => w)) h2)
theorem J_icmp_gt {a b : Int32} {off : Int} {tgt : Nat} (hdg : decode cc pc = .ok (.if_icmp .gt off, 3)) (ht : (pc : Int) + off = (tgt : Int)) (h1 : J G l cc nL own ret nm fr lc Q tgt lv st M k1) (h2 : J G l cc nL own ret nm fr lc Q (pc + 3) lv st M k2) : J G l cc nL own ret nm fr lc Q pc lv (.int b :: .int a :: st) M (if b < a then k1 else k2) := J_ite (fun h => J_step (fun x A _ _ _ _ _ _ _ w => lv_icmp_gt A.1 A.2.1 hdg ht (fun _ => w) (fun n => absurd h n)) h1) (fun h => J_step (fun x A _ _ _ _ _ _ _ w => lv_icmp_gt A.1 A.2.1 hdg ht (fun n => absurd n h) (fun _ => w)) h2)
theorem J_lcmp_gt {a b : Int64} {off : Int} {tgt : Nat} (hdl : decode cc pc = .ok (.lcmp, 1)) (hdg : decode cc (pc + 1) = .ok (.ifCond .gt off, 3)) (ht : ((pc + 1 : Nat) : Int) + off = (tgt : Int)) (h1 : J G l cc nL own ret nm fr lc Q tgt lv st M k1) (h2 : J G l cc nL own ret nm fr lc Q (pc + 1 + 3) lv st M k2) : J G l cc nL own ret nm fr lc Q pc lv (.long b :: .long a :: st) M (if b < a then k1 else k2) := by
  have q := J_lcmp hdl (a := a) (b := b) (J_if_gt hdg ht h1 h2)
  rw [show (if 0 < lg_cmp a b then k1 else k2) = (if b < a then k1 else k2) from ite_iff (lg_cmp_gt a b)] at q
  exact q
theorem J_if_le {a : Int32} {off : Int} {tgt : Nat} (hdg : decode cc pc = .ok (.ifCond .le off, 3)) (ht : (pc : Int) + off = (tgt : Int)) (h1 : J G l cc nL own ret nm fr lc Q tgt lv st M k1) (h2 : J G l cc nL own ret nm fr lc Q (pc + 3) lv st M k2) : J G l cc nL own ret nm fr lc Q pc lv (.int a :: st) M (if a ≤ 0 then k1 else k2) := J_ite (fun h => J_step (fun x A _ _ _ _ _ _ _ w => lv_if_le A.1 A.2.1 hdg ht (fun _ => w) (fun n => absurd h n)) h1) (fun h => J_step (fun x A _ _ _ _ _ _ _ w => lv_if_le A.1 A.2.1 hdg ht (fun n => absurd n h) (fun _ => w)) h2)
theorem J_icmp_le {a b : Int32} {off : Int} {tgt : Nat} (hdg : decode cc pc = .ok (.if_icmp .le off, 3)) (ht : (pc : Int) + off = (tgt : Int)) (h1 : J G l cc nL own ret nm fr lc Q tgt lv st M k1) (h2 : J G l cc nL own ret nm fr lc Q (pc + 3) lv st M k2) : J G l cc nL own ret nm fr lc Q pc lv (.int b :: .int a :: st) M (if a ≤ b then k1 else k2) := J_ite (fun h => J_step (fun x A _ _ _ _ _ _ _ w => lv_icmp_le A.1 A.2.1 hdg ht (fun _ => w) (fun n => absurd h n)) h1) (fun h => J_step (fun x A _ _ _ _ _ _ _ w => lv_icmp_le A.1 A.2.1 hdg ht (fun n => absurd n h) (fun _ => w)) h2)
theorem J_lcmp_le {a b : Int64} {off : Int} {tgt : Nat} (hdl : decode cc pc = .ok (.lcmp, 1)) (hdg : decode cc (pc + 1) = .ok (.ifCond .le off, 3)) (ht : ((pc + 1 : Nat) : Int) + off = (tgt : Int)) (h1 : J G l cc nL own ret nm fr lc Q tgt lv st M k1) (h2 : J G l cc nL own ret nm fr lc Q (pc + 1 + 3) lv st M k2) : J G l cc nL own ret nm fr lc Q pc lv (.long b :: .long a :: st) M (if a ≤ b then k1 else k2) := by
  have q := J_lcmp hdl (a := a) (b := b) (J_if_le hdg ht h1 h2)
  rw [show (if lg_cmp a b ≤ 0 then k1 else k2) = (if a ≤ b then k1 else k2) from ite_iff (lg_cmp_le a b)] at q
  exact q
end CoreB
end
section
-- what a call of the memory answers: reads and writes, none where the machine would throw
def okA (M : Mem) (ty : FieldType) (c : Nat) (i : Int32) : Bool := decide (c < M.1) && (match mSh M c with
  | .inl (t, n) => decide (t = ty) && decide (¬ (i < 0 ∨ n ≤ i.toNatClampNeg))
  | .inr _ => false)
def okO (M : Mem) (ci c : Nat) : Bool := decide (c < M.1) && decide (nS ≤ c) && (match mSh M c with
  | .inl _ => false
  | .inr z => decide (z = ci))
theorem okA_spec {M : Mem} {ty : FieldType} {c : Nat} {i : Int32} (h : okA M ty c i = true) : c < M.1 ∧ ∃ n, mSh M c = .inl (ty, n) ∧ vp_in i n := by
  unfold okA at h
  rw [Bool.and_eq_true] at h
  refine ⟨of_decide_eq_true h.1, ?_⟩
  have h2 := h.2
  split at h2
  · next t n e =>
    rw [Bool.and_eq_true] at h2
    have e1 := of_decide_eq_true h2.1
    subst e1
    exact ⟨n, e, (of_decide_eq_true h2.2 : ¬ (i < 0 ∨ n ≤ i.toNatClampNeg))⟩
  · cases h2
theorem okA_of {M : Mem} {ty : FieldType} {c : Nat} {i : Int32} {n : Nat} (h : c < M.1) (e : mSh M c = .inl (ty, n)) (hi : vp_in i n) : okA M ty c i = true := by
  unfold okA
  rw [e, Bool.and_eq_true]
  refine ⟨decide_eq_true h, ?_⟩
  show (decide (ty = ty) && decide (¬ (i < 0 ∨ n ≤ i.toNatClampNeg))) = true
  rw [Bool.and_eq_true]
  exact ⟨decide_eq_true rfl, decide_eq_true hi⟩
theorem okO_spec {M : Mem} {ci c : Nat} (h : okO M ci c = true) : c < M.1 ∧ nS ≤ c ∧ mSh M c = .inr ci := by
  unfold okO at h
  rw [Bool.and_eq_true, Bool.and_eq_true] at h
  refine ⟨of_decide_eq_true h.1.1, of_decide_eq_true h.1.2, ?_⟩
  have h2 := h.2
  split at h2
  · cases h2
  · next z e => rw [e, of_decide_eq_true h2]
theorem okO_of {M : Mem} {ci c : Nat} (h : c < M.1) (h1 : nS ≤ c) (e : mSh M c = .inr ci) : okO M ci c = true := by
  unfold okO
  rw [e, Bool.and_eq_true, Bool.and_eq_true]
  exact ⟨⟨decide_eq_true h, decide_eq_true h1⟩, decide_eq_true rfl⟩
-- arrays
def rI {β : Type} (M : Mem) (ty : FieldType) (c : Nat) (i : Int32) (k : Int32 → Option β) : Option β := if okA M ty c i = true then k (mI M c i.toNatClampNeg) else none
def rJ {β : Type} (M : Mem) (c : Nat) (i : Int32) (k : Int64 → Option β) : Option β := if okA M .long c i = true then k (mJ M c i.toNatClampNeg) else none
def rR {β : Type} (M : Mem) (ty : FieldType) (c : Nat) (i : Int32) (k : Nat → Option β) : Option β := if okA M ty c i = true then (match mR M c i.toNatClampNeg with | some a => k a | none => none) else none
def wI {β : Type} (M : Mem) (ty : FieldType) (c : Nat) (i : Int32) (x : Int32) (k : Mem → Option β) : Option β := if okA M ty c i = true ∧ nS ≤ c then k (stI M c i.toNatClampNeg (vp_nar ty x)) else none
def wJ {β : Type} (M : Mem) (c : Nat) (i : Int32) (x : Int64) (k : Mem → Option β) : Option β := if okA M .long c i = true ∧ nS ≤ c then k (stJ M c i.toNatClampNeg x) else none
-- fields
def gI {β : Type} (M : Mem) (ci f c : Nat) (k : Int32 → Option β) : Option β := if okO M ci c = true then k (mI M c f) else none
def gJ {β : Type} (M : Mem) (ci f c : Nat) (k : Int64 → Option β) : Option β := if okO M ci c = true then k (mJ M c f) else none
def gR {β : Type} (M : Mem) (ci f c : Nat) (k : Nat → Option β) : Option β := if okO M ci c = true then (match mR M c f with | some a => k a | none => none) else none
def pI {β : Type} (M : Mem) (ci f c : Nat) (x : Int32) (k : Mem → Option β) : Option β := if okO M ci c = true then k (stI M c f x) else none
def pZ {β : Type} (M : Mem) (ci f c : Nat) (x : Int32) (k : Mem → Option β) : Option β := if okO M ci c = true ∧ (x = 0 ∨ x = 1) then k (stI M c f x) else none
def pJ {β : Type} (M : Mem) (ci f c : Nat) (x : Int64) (k : Mem → Option β) : Option β := if okO M ci c = true then k (stJ M c f x) else none
def pR {β : Type} (M : Mem) (ci f c : Nat) (x : Nat) (k : Mem → Option β) : Option β := if okO M ci c = true then k (stR M c f (some x)) else none
theorem u2_ne {α : Type} {f : Nat → Nat → α} {c i c' : Nat} {x : α} (h : c' ≠ c) : u2 f c i x c' = f c' := by
  funext j
  unfold u2
  rw [if_neg (fun q => h q.1)]
theorem u2_eqI {f : Nat → Nat → Int32} {c i : Nat} {x : Int32} : u2 f c i x c = upd (f c) i x := by
  funext j
  unfold u2 upd
  by_cases h : j = i
  · rw [if_pos ⟨rfl, h⟩, if_pos h]
  · rw [if_neg (fun q => h q.2), if_neg h]
theorem u2_eqJ {f : Nat → Nat → Int64} {c i : Nat} {x : Int64} : u2 f c i x c = vp_updL (f c) i x := by
  funext j
  unfold u2 vp_updL
  by_cases h : j = i
  · rw [if_pos ⟨rfl, h⟩, if_pos h]
  · rw [if_neg (fun q => h q.2), if_neg h]
theorem fvals_congr {G : Gx} {M M' : Mem} {c : Nat} (h2 : mR M' c = mR M c) (h3 : mI M' c = mI M c) (h4 : mJ M' c = mJ M c) : ∀ (l : List FieldType) (b : Nat), fvals G M' c b l = fvals G M c b l
  | [], _ => rfl
  | ty :: r, b => by
    unfold fvals
    rw [fvals_congr h2 h3 h4 r (b + 1)]
    congr 1
    unfold fval
    rw [h2, h3, h4]
theorem cont_congr {G : Gx} {M M' : Mem} {c : Nat} (h1 : mSh M' c = mSh M c) (h2 : mR M' c = mR M c) (h3 : mI M' c = mI M c) (h4 : mJ M' c = mJ M c) : cont G M' c = cont G M c := by
  unfold cont
  rw [h1]
  split
  · unfold rowOf
    rw [h2, h3, h4]
  · rw [fvals_congr h2 h3 h4]
theorem fvals_get {G : Gx} {M : Mem} {c : Nat} : ∀ (l : List FieldType) (b k : Nat), (fvals G M c b l)[k]? = l[k]?.map (fun ty => fval G M c (b + k) ty)
  | [], _, k => by simp [fvals]
  | ty :: r, b, 0 => by simp [fvals]
  | ty :: r, b, k + 1 => by
    have h := fvals_get (G := G) (M := M) (c := c) r (b + 1) k
    simp only [fvals, List.getElem?_cons_succ]
    rw [h, show b + 1 + k = b + (k + 1) by omega]
theorem fvals_len {G : Gx} {M : Mem} {c : Nat} : ∀ (l : List FieldType) (b : Nat), (fvals G M c b l).length = l.length
  | [], _ => rfl
  | _ :: r, b => by simp [fvals, fvals_len r (b + 1)]
theorem fvals_set {G : Gx} {M M' : Mem} {c f : Nat} {l : List FieldType} {ty : FieldType} {v : Value} (hf : l[f]? = some ty) (hv : fval G M' c f ty = v) (ho : ∀ k t, k ≠ f → fval G M' c k t = fval G M c k t) : fvals G M' c 0 l = (fvals G M c 0 l).set f v := by
  apply List.ext_getElem?
  intro k
  rw [fvals_get, List.getElem?_set]
  by_cases h : f = k
  · subst h
    have hlt : f < l.length := (List.getElem?_eq_some_iff.mp hf).1
    rw [if_pos rfl, fvals_len, if_pos hlt, hf]
    simp only [Option.map_some, Nat.zero_add]
    rw [hv]
  · rw [if_neg h, fvals_get]
    cases l[k]? with
    | none => rfl
    | some t => simp only [Option.map_some, Nat.zero_add]; rw [ho k t (Ne.symm h)]
theorem adr_ne {G : Gx} {c c' : Nat} (hs : ∀ c, c < nS → G.2.2.2 c < G.2.2.1) (h : nS ≤ c) (hn : c' ≠ c) : adr G c' ≠ adr G c := by
  unfold adr
  rw [if_neg (Nat.not_lt.mpr h)]
  by_cases q : c' < nS
  · rw [if_pos q]
    have := hs c' q
    omega
  · rw [if_neg q]
    omega
theorem adr_rA {G : Gx} {c : Nat} (h : nS ≤ c) : rA G (adr G c) := by
  unfold rA adr
  rw [if_neg (Nat.not_lt.mpr h)]
  omega
theorem hold_set {G : Gx} {M M' : Mem} {H H1 : Heap} {c : Nat} (hH : Hold G M H) (hs : ∀ c, c < nS → G.2.2.2 c < G.2.2.1) (h : nS ≤ c) (e : M'.1 = M.1) (z : H1.size = H.size) (oq : ∀ q, q ≠ adr G c → H1[q]? = H[q]?) (ho : ∀ c', c' ≠ c → mSh M' c' = mSh M c' ∧ mR M' c' = mR M c' ∧ mI M' c' = mI M c' ∧ mJ M' c' = mJ M c') (hc : va_at G.1 vwCl (adr G c, cont G M' c) H1) : Hold G M' H1 := by
  refine ⟨by rw [e]; exact hH.1, by rw [z, e]; exact hH.2.1, fun c' hn' hc' => ?_, fun c' hc' => ?_⟩
  · by_cases q : c' = c
    · subst q; exact hc
    · rw [cont_congr (ho c' q).1 (ho c' q).2.1 (ho c' q).2.2.1 (ho c' q).2.2.2]
      exact (hH.2.2.1 c' hn' (by rw [← e]; exact hc')).kept (oq _ (adr_ne hs h q))
  · have q : c' ≠ c := by omega
    obtain ⟨n, cell, g1, g2, g3, g4, g5⟩ := hH.2.2.2 c' hc'
    exact ⟨n, cell, by rw [(ho c' q).1]; exact g1, by rw [oq _ (adr_ne hs h q)]; exact g2, g3, g4, fun j hj => by rw [(ho c' q).2.2.1]; exact g5 j hj⟩
theorem va_P1 {D : va_G} {cl : List vw_C} {q : Nat × va_E} {H : Heap} (h : va_at D cl q H) : va_P D cl [q] H := by
  intro k p hp
  have hk : k < 1 := (List.getElem?_eq_some_iff.mp hp).1
  rw [show k = 0 by omega] at hp
  cases hp
  exact h
theorem hold_arr {G : Gx} {M : Mem} {H : Heap} {c n : Nat} {ty : FieldType} (hH : Hold G M H) (hn : nS ≤ c) (hc : c < M.1) (e : mSh M c = .inl (ty, n)) : va_at G.1 vwCl (adr G c, .inl (G.2.1 ty, n, rowOf G M c ty)) H := by
  have h := hH.2.2.1 c hn hc
  unfold cont at h
  rw [e] at h
  exact h
theorem hold_obj {G : Gx} {M : Mem} {H : Heap} {c ci : Nat} (hH : Hold G M H) (hc : c < M.1) (e : mSh M c = .inr ci) : va_at G.1 vwCl (adr G c, .inr (ci, fvals G M c 0 (cfT ci))) H := by
  have hn : nS ≤ c := by
    rcases Nat.lt_or_ge c nS with q | q
    · obtain ⟨n, cell, g1, -⟩ := hH.2.2.2 c q
      rw [e] at g1
      cases g1
    · exact q
  have h := hH.2.2.1 c hn hc
  unfold cont at h
  rw [e] at h
  exact h
theorem hold_ns {G : Gx} {M : Mem} {H : Heap} {c n : Nat} {ty : FieldType} (hH : Hold G M H) (e : mSh M c = .inl (ty, n)) (ht : ty ≠ .int) : nS ≤ c := by
  rcases Nat.lt_or_ge c nS with q | q
  · obtain ⟨n', cell, g1, -⟩ := hH.2.2.2 c q
    rw [e] at g1
    cases g1
    exact absurd rfl ht
  · exact q
end
section
section CoreD
variable {G : Gx} {l : Launch} {cc : ByteArray} {nL : Nat} {own : String} {ret : Option FieldType} {nm : String} {fr lc : Nat} {α : Type} {Q : Cx → Mem → α → Mem → State → Prop} {M M' : Mem} {pc pc' : Nat} {lv lv' : List (Nat × Value)} {st st' : List Value}

theorem J_iald {k : Int32 → Option (α × Mem)} {c : Nat} {i : Int32} (hdg : decode cc pc = .ok (.iaload, 1)) (k1 : J G l cc nL own ret nm fr lc Q (pc + 1) lv (.int (mI M c i.toNatClampNeg) :: st) M (k (mI M c i.toNatClampNeg))) : J G l cc nL own ret nm fr lc Q pc lv (.int i :: .ref (adr G c) :: st) M (rI M .int c i k) := by
  unfold rI
  refine J_ite (fun h => ?_) (fun _ => J_none)
  obtain ⟨hc, n, e, hi⟩ := okA_spec h
  refine J_stepH (fun x A H _ _ _ _ _ hH hS _ w => ?_) k1
  rcases Nat.lt_or_ge c nS with q | q
  · obtain ⟨n', cell, g1, g2, g3, g4, g5⟩ := hH.2.2.2 c q
    have en : n' = n := by rw [e] at g1; cases g1; rfl
    subst en
    have hlt : i.toNatClampNeg < n' := Nat.not_le.mp fun z => hi (Or.inr z)
    have ea : adr G c = G.2.2.2 c := by unfold adr; rw [if_pos q]
    have hK := A.2.2.2.2.2.2.2.2
    have hb : ¬ rA G (adr G c) := by rw [ea]; exact Nat.not_le.mpr (hK.2.1 c q)
    have hbs : adr G c < (xs x).heap.size := by rw [ea]; exact Nat.lt_of_lt_of_le (hK.2.1 c q) hK.2.2.1
    have g6 : (xs x).heap[G.2.2.2 c]? = some cell := by rw [← ea, ← hS.2.1 _ hbs hb]; exact g2
    exact W.iald A.1 A.2.1 g2 (hK.2.2.2.2.2.2.2 c q cell g6) g3 (by rw [g4]; exact hi) (g5 _ hlt) rfl rfl hdg w
  · exact va_iald A.1 A.2.1 A.2.2.2.2.2.2.2.2.1 (va_P1 (hold_arr hH q hc e)) 0 0 rfl rfl hi hdg w
theorem J_bald {k : Int32 → Option (α × Mem)} {c : Nat} {i : Int32} (hdg : decode cc pc = .ok (.baload, 1)) (k1 : J G l cc nL own ret nm fr lc Q (pc + 1) lv (.int (mI M c i.toNatClampNeg) :: st) M (k (mI M c i.toNatClampNeg))) : J G l cc nL own ret nm fr lc Q pc lv (.int i :: .ref (adr G c) :: st) M (rI M .byte c i k) := by
  unfold rI
  refine J_ite (fun h => ?_) (fun _ => J_none)
  obtain ⟨hc, n, e, hi⟩ := okA_spec h
  exact J_stepH (fun x A H _ _ _ _ _ hH _ _ w => va_bald A.1 A.2.1 A.2.2.2.2.2.2.2.2.1 (va_P1 (hold_arr hH (hold_ns hH e (by decide)) hc e)) 0 1 rfl rfl hi hdg w) k1
theorem J_zald {k : Int32 → Option (α × Mem)} {c : Nat} {i : Int32} (hdg : decode cc pc = .ok (.baload, 1)) (k1 : J G l cc nL own ret nm fr lc Q (pc + 1) lv (.int (mI M c i.toNatClampNeg) :: st) M (k (mI M c i.toNatClampNeg))) : J G l cc nL own ret nm fr lc Q pc lv (.int i :: .ref (adr G c) :: st) M (rI M .boolean c i k) := by
  unfold rI
  refine J_ite (fun h => ?_) (fun _ => J_none)
  obtain ⟨hc, n, e, hi⟩ := okA_spec h
  exact J_stepH (fun x A H _ _ _ _ _ hH _ _ w => va_zald A.1 A.2.1 A.2.2.2.2.2.2.2.2.1 (va_P1 (hold_arr hH (hold_ns hH e (by decide)) hc e)) 0 2 rfl rfl hi hdg w) k1
theorem J_lald {k : Int64 → Option (α × Mem)} {c : Nat} {i : Int32} (hdg : decode cc pc = .ok (.laload, 1)) (k1 : J G l cc nL own ret nm fr lc Q (pc + 1) lv (.long (mJ M c i.toNatClampNeg) :: st) M (k (mJ M c i.toNatClampNeg))) : J G l cc nL own ret nm fr lc Q pc lv (.int i :: .ref (adr G c) :: st) M (rJ M c i k) := by
  unfold rJ
  refine J_ite (fun h => ?_) (fun _ => J_none)
  obtain ⟨hc, n, e, hi⟩ := okA_spec h
  exact J_stepH (fun x A H _ _ _ _ _ hH _ _ w => va_lald A.1 A.2.1 A.2.2.2.2.2.2.2.2.1 (va_P1 (hold_arr hH (hold_ns hH e (by decide)) hc e)) 0 3 rfl rfl hi hdg w) k1
theorem J_aaldI {k : Nat → Option (α × Mem)} {c : Nat} {i : Int32} (hdg : decode cc pc = .ok (.aaload, 1)) (k1 : ∀ a, J G l cc nL own ret nm fr lc Q (pc + 1) lv (.ref (adr G a) :: st) M (k a)) : J G l cc nL own ret nm fr lc Q pc lv (.int i :: .ref (adr G c) :: st) M (rR M (.array .int) c i k) := by
  unfold rR
  refine J_ite (fun h => ?_) (fun _ => J_none)
  obtain ⟨hc, n, e, hi⟩ := okA_spec h
  have hlt : i.toNatClampNeg < n := Nat.not_le.mp fun q => hi (Or.inr q)
  cases hm : mR M c i.toNatClampNeg with
  | none => exact J_none
  | some a =>
    refine J_stepH (fun x A H _ _ _ _ _ hH _ _ w => ?_) (k1 a)
    have hP := va_P1 (hold_arr hH (hold_ns hH e (by decide)) hc e)
    refine W.aald (v := .ref (adr G a)) (ty := (.array .int)) A.1 A.2.1 (hP 0 _ rfl) ((A.2.2.2.2.2.2.2.2.1.2 4 _ rfl).1 n (fun j => va_rf ((mR M c j).map (adr G)))) rfl (fun q => by cases q) (by show ¬ (i < 0 ∨ (arrV _ _ _).slots.size ≤ _); rw [arrV_size]; exact hi) (by show (arrV _ _ _).slots[_]? = _; rw [arrV_read _ _ hlt]; show some (va_rf (Option.map (adr G) (mR M c i.toNatClampNeg))) = _; rw [hm]; rfl) rfl rfl hdg w
theorem J_aaldO {k : Nat → Option (α × Mem)} {c : Nat} {i : Int32} (hdg : decode cc pc = .ok (.aaload, 1)) (k1 : ∀ a, J G l cc nL own ret nm fr lc Q (pc + 1) lv (.ref (adr G a) :: st) M (k a)) : J G l cc nL own ret nm fr lc Q pc lv (.int i :: .ref (adr G c) :: st) M (rR M (.object "ChainBooks$Head") c i k) := by
  unfold rR
  refine J_ite (fun h => ?_) (fun _ => J_none)
  obtain ⟨hc, n, e, hi⟩ := okA_spec h
  have hlt : i.toNatClampNeg < n := Nat.not_le.mp fun q => hi (Or.inr q)
  cases hm : mR M c i.toNatClampNeg with
  | none => exact J_none
  | some a =>
    refine J_stepH (fun x A H _ _ _ _ _ hH _ _ w => ?_) (k1 a)
    have hP := va_P1 (hold_arr hH (hold_ns hH e (by decide)) hc e)
    refine W.aald (v := .ref (adr G a)) (ty := (.object "ChainBooks$Head")) A.1 A.2.1 (hP 0 _ rfl) ((A.2.2.2.2.2.2.2.2.1.2 5 _ rfl).1 n (fun j => va_rf ((mR M c j).map (adr G)))) rfl (fun q => by cases q) (by show ¬ (i < 0 ∨ (arrV _ _ _).slots.size ≤ _); rw [arrV_size]; exact hi) (by show (arrV _ _ _).slots[_]? = _; rw [arrV_read _ _ hlt]; show some (va_rf (Option.map (adr G) (mR M c i.toNatClampNeg))) = _; rw [hm]; rfl) rfl rfl hdg w
theorem J_iast {k : Mem → Option (α × Mem)} {c : Nat} {i v : Int32} (hdg : decode cc pc = .ok (.iastore, 1)) (k1 : J G l cc nL own ret nm fr lc Q (pc + 1) lv st (stI M c i.toNatClampNeg (vp_nar .int v)) (k (stI M c i.toNatClampNeg (vp_nar .int v)))) : J G l cc nL own ret nm fr lc Q pc lv (.int v :: .int i :: .ref (adr G c) :: st) M (wI M .int c i v k) := by
  unfold wI
  refine J_ite (fun h => ?_) (fun _ => J_none)
  obtain ⟨hc, n, e, hi⟩ := okA_spec h.1
  refine J_stepS (M' := stI M c i.toNatClampNeg (vp_nar .int v)) rfl rfl (fun x A H locs ls _ _ _ hH hS _ w => ?_) k1
  have ha := hold_arr hH h.2 hc e
  refine W.iast A.1 A.2.1 ha ((A.2.2.2.2.2.2.2.2.1.2 0 _ rfl).1 n (fun j => .int (mI M c j))) (fun q => by cases q) (by show ¬ (i < 0 ∨ (arrV _ _ _).slots.size ≤ _); rw [arrV_size]; exact hi) rfl rfl hdg fun H1 e1 z oq => ?_
  refine w H1 _ (hold_set hH A.2.2.2.2.2.2.2.2.2.1 h.2 rfl z oq (fun c' q => ⟨rfl, rfl, u2_ne q, rfl⟩) ?_) (hS.put z oq (adr_rA h.2))
  have hcn : cont G (stI M c i.toNatClampNeg (vp_nar .int v)) c = .inl (G.2.1 .int, n, .inl (upd (mI M c) i.toNatClampNeg (vp_nar .int v))) := by
    unfold cont
    rw [show mSh (stI M c i.toNatClampNeg (vp_nar .int v)) c = .inl (.int, n) from e]
    show (Sum.inl (G.2.1 .int, n, .inl (u2 (mI M) c i.toNatClampNeg (vp_nar .int v) c)) : va_E) = _
    rw [u2_eqI]
  rw [hcn]
  show H1[adr G c]? = some (vp_cell _ _)
  rw [e1]
  show some (Cell.setSlot (vp_cell _ (n, .inl (mI M c))) _ _) = _
  rw [vp_cell_i, vp_cell_i, arrV_store]
  congr 2
  funext q
  by_cases hq : q = i.toNatClampNeg
  · subst hq
    simp [updV, upd, vp_nar, narrow]
  · simp [updV, upd, hq]
theorem J_bast {k : Mem → Option (α × Mem)} {c : Nat} {i v : Int32} (hdg : decode cc pc = .ok (.bastore, 1)) (k1 : J G l cc nL own ret nm fr lc Q (pc + 1) lv st (stI M c i.toNatClampNeg (vp_nar .byte v)) (k (stI M c i.toNatClampNeg (vp_nar .byte v)))) : J G l cc nL own ret nm fr lc Q pc lv (.int v :: .int i :: .ref (adr G c) :: st) M (wI M .byte c i v k) := by
  unfold wI
  refine J_ite (fun h => ?_) (fun _ => J_none)
  obtain ⟨hc, n, e, hi⟩ := okA_spec h.1
  refine J_stepS (M' := stI M c i.toNatClampNeg (vp_nar .byte v)) rfl rfl (fun x A H locs ls _ _ _ hH hS _ w => ?_) k1
  have ha := hold_arr hH h.2 hc e
  refine W.bast A.1 A.2.1 ha ((A.2.2.2.2.2.2.2.2.1.2 1 _ rfl).1 n (fun j => .int (mI M c j))) (fun q => by cases q) (by show ¬ (i < 0 ∨ (arrV _ _ _).slots.size ≤ _); rw [arrV_size]; exact hi) rfl rfl hdg fun H1 e1 z oq => ?_
  refine w H1 _ (hold_set hH A.2.2.2.2.2.2.2.2.2.1 h.2 rfl z oq (fun c' q => ⟨rfl, rfl, u2_ne q, rfl⟩) ?_) (hS.put z oq (adr_rA h.2))
  have hcn : cont G (stI M c i.toNatClampNeg (vp_nar .byte v)) c = .inl (G.2.1 .byte, n, .inl (upd (mI M c) i.toNatClampNeg (vp_nar .byte v))) := by
    unfold cont
    rw [show mSh (stI M c i.toNatClampNeg (vp_nar .byte v)) c = .inl (.byte, n) from e]
    show (Sum.inl (G.2.1 .byte, n, .inl (u2 (mI M) c i.toNatClampNeg (vp_nar .byte v) c)) : va_E) = _
    rw [u2_eqI]
  rw [hcn]
  show H1[adr G c]? = some (vp_cell _ _)
  rw [e1]
  show some (Cell.setSlot (vp_cell _ (n, .inl (mI M c))) _ _) = _
  rw [vp_cell_i, vp_cell_i, arrV_store]
  congr 2
  funext q
  by_cases hq : q = i.toNatClampNeg
  · subst hq
    simp [updV, upd, vp_nar, narrow]
  · simp [updV, upd, hq]
theorem J_zast {k : Mem → Option (α × Mem)} {c : Nat} {i v : Int32} (hdg : decode cc pc = .ok (.bastore, 1)) (k1 : J G l cc nL own ret nm fr lc Q (pc + 1) lv st (stI M c i.toNatClampNeg (vp_nar .boolean v)) (k (stI M c i.toNatClampNeg (vp_nar .boolean v)))) : J G l cc nL own ret nm fr lc Q pc lv (.int v :: .int i :: .ref (adr G c) :: st) M (wI M .boolean c i v k) := by
  unfold wI
  refine J_ite (fun h => ?_) (fun _ => J_none)
  obtain ⟨hc, n, e, hi⟩ := okA_spec h.1
  refine J_stepS (M' := stI M c i.toNatClampNeg (vp_nar .boolean v)) rfl rfl (fun x A H locs ls _ _ _ hH hS _ w => ?_) k1
  have ha := hold_arr hH h.2 hc e
  refine W.zast A.1 A.2.1 ha ((A.2.2.2.2.2.2.2.2.1.2 2 _ rfl).1 n (fun j => .int (mI M c j))) (fun q => by cases q) (by show ¬ (i < 0 ∨ (arrV _ _ _).slots.size ≤ _); rw [arrV_size]; exact hi) rfl rfl hdg fun H1 e1 z oq => ?_
  refine w H1 _ (hold_set hH A.2.2.2.2.2.2.2.2.2.1 h.2 rfl z oq (fun c' q => ⟨rfl, rfl, u2_ne q, rfl⟩) ?_) (hS.put z oq (adr_rA h.2))
  have hcn : cont G (stI M c i.toNatClampNeg (vp_nar .boolean v)) c = .inl (G.2.1 .boolean, n, .inl (upd (mI M c) i.toNatClampNeg (vp_nar .boolean v))) := by
    unfold cont
    rw [show mSh (stI M c i.toNatClampNeg (vp_nar .boolean v)) c = .inl (.boolean, n) from e]
    show (Sum.inl (G.2.1 .boolean, n, .inl (u2 (mI M) c i.toNatClampNeg (vp_nar .boolean v) c)) : va_E) = _
    rw [u2_eqI]
  rw [hcn]
  show H1[adr G c]? = some (vp_cell _ _)
  rw [e1]
  show some (Cell.setSlot (vp_cell _ (n, .inl (mI M c))) _ _) = _
  rw [vp_cell_i, vp_cell_i, arrV_store]
  congr 2
  funext q
  by_cases hq : q = i.toNatClampNeg
  · subst hq
    simp [updV, upd, vp_nar, narrow]
  · simp [updV, upd, hq]
theorem J_last {k : Mem → Option (α × Mem)} {c : Nat} {i : Int32} {v : Int64} (hdg : decode cc pc = .ok (.lastore, 1)) (k1 : J G l cc nL own ret nm fr lc Q (pc + 1) lv st (stJ M c i.toNatClampNeg v) (k (stJ M c i.toNatClampNeg v))) : J G l cc nL own ret nm fr lc Q pc lv (.long v :: .int i :: .ref (adr G c) :: st) M (wJ M c i v k) := by
  unfold wJ
  refine J_ite (fun h => ?_) (fun _ => J_none)
  obtain ⟨hc, n, e, hi⟩ := okA_spec h.1
  refine J_stepS (M' := stJ M c i.toNatClampNeg v) rfl rfl (fun x A H locs ls _ _ _ hH hS _ w => ?_) k1
  have ha := hold_arr hH h.2 hc e
  refine W.last A.1 A.2.1 ha ((A.2.2.2.2.2.2.2.2.1.2 3 _ rfl).1 n (fun j => .long (mJ M c j))) (fun q => by cases q) (by show ¬ (i < 0 ∨ (arrV _ _ _).slots.size ≤ _); rw [arrV_size]; exact hi) rfl rfl hdg fun H1 e1 z oq => ?_
  refine w H1 _ (hold_set hH A.2.2.2.2.2.2.2.2.2.1 h.2 rfl z oq (fun c' q => ⟨rfl, rfl, rfl, (u2_ne q)⟩) ?_) (hS.put z oq (adr_rA h.2))
  have hcn : cont G (stJ M c i.toNatClampNeg v) c = .inl (G.2.1 .long, n, .inr (.inl (vp_updL (mJ M c) i.toNatClampNeg v))) := by
    unfold cont
    rw [show mSh (stJ M c i.toNatClampNeg v) c = .inl (.long, n) from e]
    show (Sum.inl (G.2.1 .long, n, .inr (.inl (u2 (mJ M) c i.toNatClampNeg v c))) : va_E) = _
    rw [u2_eqJ]
  rw [hcn]
  show H1[adr G c]? = some (vp_cell _ _)
  rw [e1]
  show some (Cell.setSlot (vp_cell _ (n, .inr (.inl (mJ M c)))) _ _) = _
  rw [vp_cell_l, vp_cell_l, arrV_store]
  congr 2
  funext q
  by_cases hq : q = i.toNatClampNeg
  · subst hq
    simp [updV, vp_updL]
  · simp [updV, vp_updL, hq]
end CoreD
end
section
theorem lw_good : ∀ w ∈ lwT, goodWord w = true := fun _ h => (List.mem_filter.mp h).2
theorem good_tbl {w : Cond} (h : w ∈ lwT) : GoodIn lwT (w :: lwT) := fun z hz => by
  rcases List.mem_cons.mp hz with rfl | hz
  · exact ⟨h, good_of_word (lw_good _ h)⟩
  · exact ⟨hz, good_of_word (lw_good _ hz)⟩
/-- a field: its class's number, its place, its type, final or not, its names -/
def FdOk (ci f : Nat) (ty : FieldType) (fin : Bool) (cn n d : String) : Prop := ∃ (C : String) (T : u_T) (N : Nat) (ty0 : Nat → FieldType), vwCl[ci]? = some (C, T, N) ∧ (∀ w ∈ u_ws C T N, w ∈ lwT) ∧ f < N ∧ (cfT ci)[f]? = some ty ∧ T f = (cn, n, d, fin) ∧ (∀ k, k < N → parseFieldDescriptor (T k).2.2.1 = some (ty0 k)) ∧ (∀ a, a < N → ∀ b, b < N → a ≠ b → (T a).2.1 ≠ (T b).2.1) ∧ parseFieldDescriptor d = some ty
theorem fval_I {G : Gx} {M : Mem} {c f j : Nat} {v : Int32} {t : FieldType} (hj : j ≠ f) : fval G (stI M c f v) c j t = fval G M c j t := by
  have h : mI (stI M c f v) c j = mI M c j := by
    show u2 (mI M) c f v c j = _
    unfold u2; rw [if_neg (fun q => hj q.2)]
  cases t <;> first | rfl | exact congrArg Value.int h
theorem fval_J {G : Gx} {M : Mem} {c f j : Nat} {v : Int64} {t : FieldType} (hj : j ≠ f) : fval G (stJ M c f v) c j t = fval G M c j t := by
  have h : mJ (stJ M c f v) c j = mJ M c j := by
    show u2 (mJ M) c f v c j = _
    unfold u2; rw [if_neg (fun q => hj q.2)]
  cases t <;> first | rfl | exact congrArg Value.long h
theorem fval_R {G : Gx} {M : Mem} {c f j : Nat} {v : Option Nat} {t : FieldType} (hj : j ≠ f) : fval G (stR M c f v) c j t = fval G M c j t := by
  have h : mR (stR M c f v) c j = mR M c j := by
    show u2 (mR M) c f v c j = _
    unfold u2; rw [if_neg (fun q => hj q.2)]
  cases t <;> first | rfl | exact congrArg (fun z => va_rf (z.map (adr G))) h
section CoreE
variable {G : Gx} {l : Launch} {cc : ByteArray} {nL : Nat} {own : String} {ret : Option FieldType} {nm : String} {fr lc : Nat} {α : Type} {Q : Cx → Mem → α → Mem → State → Prop} {M M' : Mem} {pc pc' : Nat} {lv lv' : List (Nat × Value)} {st st' : List Value}
theorem getf_core {x : Cx} (A : Act G x cc nL own ret nm) {ci f idx c : Nat} {ty : FieldType} {fin : Bool} {cn n d : String} (F : FdOk ci f ty fin cn n d) (hw : Cond.fieldLink own idx cn n d ∈ lwT) (hdg : decode cc pc = .ok (.getfield idx, 3)) (hc : c < M.1) (e : mSh M c = .inr ci) {H : Heap} {locs : List Loc} {ls : Array Slot} {cells slots : Nat} {Q' : State → Prop} (hH : Hold G M H) (w : WW x H locs cells slots Q' (F0 (xm x) (pc + 3) ls (fval G M c f ty :: st))) : WW x H locs cells slots Q' (F0 (xm x) pc ls (.ref (adr G c) :: st)) := by
  obtain ⟨C, T, N, ty0, h1, h2, h3, h4, h5, h6, h7, h8⟩ := F
  refine va_get (D := G.1) (ci := ci) (v := fval G M c f ty) (C := C) (T := T) (N := N) (ref := cn) (index := idx) A.1 A.2.1 A.2.2.2.2.1 h2 A.2.2.2.1 A.2.2.2.2.2.2.2.2.1 (va_P1 (hold_obj hH hc e)) 0 rfl h1 f h3 (by rw [h5]; exact A.2.2.2.2.1 _ hw) (fun z hz => by rw [h5] at hz ⊢; exact hz) ?_ hdg w
  rw [fvals_get, h4, Nat.zero_add]
  rfl
theorem J_getI {k : Int32 → Option (α × Mem)} {ci f idx c : Nat} {ty : FieldType} {fin : Bool} {cn n d : String} (F : FdOk ci f ty fin cn n d) (hw : Cond.fieldLink own idx cn n d ∈ lwT) (hv : fval G M c f ty = .int (mI M c f)) (hdg : decode cc pc = .ok (.getfield idx, 3)) (k1 : J G l cc nL own ret nm fr lc Q (pc + 3) lv (.int (mI M c f) :: st) M (k (mI M c f))) : J G l cc nL own ret nm fr lc Q pc lv (.ref (adr G c) :: st) M (gI M ci f c k) := by
  unfold gI
  refine J_ite (fun h => ?_) (fun _ => J_none)
  obtain ⟨hc, -, e⟩ := okO_spec h
  exact J_stepH (fun x A H _ _ _ _ _ hH _ _ w => getf_core A F hw hdg hc e hH (by rw [hv]; exact w)) k1
theorem J_getJ {k : Int64 → Option (α × Mem)} {ci f idx c : Nat} {ty : FieldType} {fin : Bool} {cn n d : String} (F : FdOk ci f ty fin cn n d) (hw : Cond.fieldLink own idx cn n d ∈ lwT) (hv : fval G M c f ty = .long (mJ M c f)) (hdg : decode cc pc = .ok (.getfield idx, 3)) (k1 : J G l cc nL own ret nm fr lc Q (pc + 3) lv (.long (mJ M c f) :: st) M (k (mJ M c f))) : J G l cc nL own ret nm fr lc Q pc lv (.ref (adr G c) :: st) M (gJ M ci f c k) := by
  unfold gJ
  refine J_ite (fun h => ?_) (fun _ => J_none)
  obtain ⟨hc, -, e⟩ := okO_spec h
  exact J_stepH (fun x A H _ _ _ _ _ hH _ _ w => getf_core A F hw hdg hc e hH (by rw [hv]; exact w)) k1
theorem J_getR {k : Nat → Option (α × Mem)} {ci f idx c : Nat} {ty : FieldType} {fin : Bool} {cn n d : String} (F : FdOk ci f ty fin cn n d) (hw : Cond.fieldLink own idx cn n d ∈ lwT) (hv : fval G M c f ty = va_rf ((mR M c f).map (adr G))) (hdg : decode cc pc = .ok (.getfield idx, 3)) (k1 : ∀ a, J G l cc nL own ret nm fr lc Q (pc + 3) lv (.ref (adr G a) :: st) M (k a)) : J G l cc nL own ret nm fr lc Q pc lv (.ref (adr G c) :: st) M (gR M ci f c k) := by
  unfold gR
  refine J_ite (fun h => ?_) (fun _ => J_none)
  obtain ⟨hc, -, e⟩ := okO_spec h
  cases hm : mR M c f with
  | none => exact J_none
  | some a =>
    refine J_stepH (fun x A H _ _ _ _ _ hH _ _ w => getf_core A F hw hdg hc e hH ?_) (k1 a)
    rw [hv, hm]
    exact w
theorem putf_core {x : Cx} (A : Act G x cc nL own ret nm) {ci f idx c : Nat} {ty : FieldType} {cn n d : String} {v : Value} (F : FdOk ci f ty false cn n d) (hw : Cond.fieldLink own idx cn n d ∈ lwT) (hdg : decode cc pc = .ok (.putfield idx, 3)) (hc : c < M.1) (hns : nS ≤ c) (e : mSh M c = .inr ci) (hn : narrow ty v = v) (hfit : fits ty v = true)
    (e1 : M'.1 = M.1) (e2 : mSh M' = mSh M) (hv : fval G M' c f ty = v) (hof : ∀ k t, k ≠ f → fval G M' c k t = fval G M c k t) (ho : ∀ c', c' ≠ c → mSh M' c' = mSh M c' ∧ mR M' c' = mR M c' ∧ mI M' c' = mI M c' ∧ mJ M' c' = mJ M c') {H : Heap} {locs : List Loc} {ls : Array Slot} {cells slots : Nat} {Q' : State → Prop} (hH : Hold G M H) (hS : va_S (rA G) (xs x).heap H locs)
    (w : ∀ (H1 : Heap) (locs1 : List Loc), Hold G M' H1 → va_S (rA G) (xs x).heap H1 locs1 → WW x H1 locs1 cells slots Q' (F0 (xm x) (pc + 3) ls st)) : WW x H locs cells slots Q' (F0 (xm x) pc ls (v :: .ref (adr G c) :: st)) := by
  obtain ⟨C, T, N, ty0, h1, h2, h3, h4, h5, h6, h7, h8⟩ := F
  have hK := A.2.2.2.2.2.2.2.2.1
  have hts := A.2.2.2.2.1
  have hap := va_apart (own := own) hts h2 ty0 h6 h7 hK h1
  obtain ⟨r, g1, cell, q1, q2, q3, q4⟩ := hold_obj hH hc e
  have hr : r = (C, T, N) := Option.some.inj (g1.symm.trans h1)
  subst hr
  obtain ⟨hSl, hfc, kC, hkC, hkind⟩ := hK.1 ci _ h1
  obtain ⟨cf, kf, fi, fd, hi, hsl⟩ := hSl f h3
  have hlay := hts _ (h2 _ (u_in_lay h3))
  unfold u_lay at hlay
  rw [if_neg (by rw [h5]; exact Bool.false_ne_true)] at hlay
  have hst := (u_facts hfc hkC (u_lays hts h2 h3) hi).1
  have h9 := u_store hfc hkC hkind hlay hi (by rw [h5]; exact h8) hn hfit
  refine W.putK A.1 A.2.1 (own := own) (ref := cn) (name := n) (desc := d) (index := idx) (f := fd) ⟨A.2.2.2.1, hts _ hw, ⟨_, _, _, (by have hi : (xs x).fieldFound? (T f).1 (T f).2.1 (T f).2.2.1 = _ := hi; rw [h5] at hi; exact hi)⟩, hst⟩ (by rw [q2]; exact h9) q1 q3 (by rw [hsl]; exact k2_hasslot (q4 f h3)) rfl rfl hdg fun H1 i1 i2 i3 => ?_
  rw [hsl] at i1 ⊢
  refine w H1 _ (hold_set hH A.2.2.2.2.2.2.2.2.2.1 hns e1 i2 i3 ho ?_) (hS.put i2 i3 (adr_rA hns))
  have hcn : cont G M' c = .inr (ci, (fvals G M c 0 (cfT ci)).set f v) := by
    unfold cont
    rw [e2, e]
    show (Sum.inr (ci, fvals G M' c 0 (cfT ci)) : va_E) = _
    rw [fvals_set h4 hv hof]
  rw [hcn]
  exact ⟨_, h1, t_OB.to (V := updV (vp_V (fvals G M c 0 (cfT ci))) f v) ⟨_, i1, q2, q3, t_set q4 hap h3 v⟩ (fun j _ => vp_updV_set (by rw [fvals_len]; exact (List.getElem?_eq_some_iff.mp h4).1) v j)⟩
theorem J_putI {k : Mem → Option (α × Mem)} {ci f idx c : Nat} {cn n d : String} {v : Int32} (F : FdOk ci f .int false cn n d) (hw : Cond.fieldLink own idx cn n d ∈ lwT) (hdg : decode cc pc = .ok (.putfield idx, 3)) (k1 : J G l cc nL own ret nm fr lc Q (pc + 3) lv st (stI M c f v) (k (stI M c f v))) : J G l cc nL own ret nm fr lc Q pc lv (.int v :: .ref (adr G c) :: st) M (pI M ci f c v k) := by
  unfold pI
  refine J_ite (fun h => ?_) (fun _ => J_none)
  obtain ⟨hc, hns, e⟩ := okO_spec h
  refine J_stepS (M' := stI M c f v) rfl rfl (fun x A H _ _ _ _ _ hH hS _ w => putf_core (M' := stI M c f v) A F hw hdg hc hns e (vp_nar_int v) rfl rfl rfl ?_ ?_ (fun c' q => ⟨rfl, rfl, u2_ne q, rfl⟩) hH hS w) k1
  · show Value.int (u2 (mI M) c f v c f) = _
    unfold u2; rw [if_pos ⟨rfl, rfl⟩]
  · exact fun j t hj => fval_I hj
theorem J_putZ {k : Mem → Option (α × Mem)} {ci f idx c : Nat} {cn n d : String} {v : Int32} (F : FdOk ci f .boolean false cn n d) (hw : Cond.fieldLink own idx cn n d ∈ lwT) (hdg : decode cc pc = .ok (.putfield idx, 3)) (k1 : J G l cc nL own ret nm fr lc Q (pc + 3) lv st (stI M c f v) (k (stI M c f v))) : J G l cc nL own ret nm fr lc Q pc lv (.int v :: .ref (adr G c) :: st) M (pZ M ci f c v k) := by
  unfold pZ
  refine J_ite (fun h => ?_) (fun _ => J_none)
  obtain ⟨hc, hns, e⟩ := okO_spec h.1
  refine J_stepS (M' := stI M c f v) rfl rfl (fun x A H _ _ _ _ _ hH hS _ w => putf_core (M' := stI M c f v) A F hw hdg hc hns e (by rcases h.2 with rfl | rfl <;> decide) (by rcases h.2 with rfl | rfl <;> decide) rfl rfl ?_ ?_ (fun c' q => ⟨rfl, rfl, u2_ne q, rfl⟩) hH hS w) k1
  · show Value.int (u2 (mI M) c f v c f) = _
    unfold u2; rw [if_pos ⟨rfl, rfl⟩]
  · exact fun j t hj => fval_I hj
theorem J_putJ {k : Mem → Option (α × Mem)} {ci f idx c : Nat} {cn n d : String} {v : Int64} (F : FdOk ci f .long false cn n d) (hw : Cond.fieldLink own idx cn n d ∈ lwT) (hdg : decode cc pc = .ok (.putfield idx, 3)) (k1 : J G l cc nL own ret nm fr lc Q (pc + 3) lv st (stJ M c f v) (k (stJ M c f v))) : J G l cc nL own ret nm fr lc Q pc lv (.long v :: .ref (adr G c) :: st) M (pJ M ci f c v k) := by
  unfold pJ
  refine J_ite (fun h => ?_) (fun _ => J_none)
  obtain ⟨hc, hns, e⟩ := okO_spec h
  refine J_stepS (M' := stJ M c f v) rfl rfl (fun x A H _ _ _ _ _ hH hS _ w => putf_core (M' := stJ M c f v) A F hw hdg hc hns e rfl rfl rfl rfl ?_ ?_ (fun c' q => ⟨rfl, rfl, rfl, u2_ne q⟩) hH hS w) k1
  · show Value.long (u2 (mJ M) c f v c f) = _
    unfold u2; rw [if_pos ⟨rfl, rfl⟩]
  · exact fun j t hj => fval_J hj
end CoreE
end
section
/-- behind a method: what it answers, the memory, the tables -/
def QC (G : Gx) {α : Type} (rv : α → Option Value) (r : α) (Me : Mem) : Array Value → State → Outcome → State → Prop := fun _ st o t => o = .returned (rv r) ∧ Hold G Me t.heap ∧ Kn G t ∧ va_F (rA G) st t
/-- a method's contract: from the memory M, if k tells an answer and a memory, the method comes to them -/
def Con (G : Gx) (l : Launch) (y : MethodName) (cc : ByteArray) (maxL : Nat) (ret : Option FieldType) (fr lc : Nat) {α : Type} (rv : α → Option Value) (args : List Value) (M : Mem) (k : Option (α × Mem)) : Prop :=
  ∀ r Me, k = some (r, Me) → (M.1 ≤ Me.1 ∧ M.2.1 ≤ Me.2.1) ∧ Met l y (.code y cc maxL ret :: lwT) { frames := fr, cells := Me.1 - M.1, slots := Me.2.1 - M.2.1, locals := lc } (va_Pc args (fun U => Hold G M U.heap ∧ Kn G U)) (QC G rv r Me) (Me.1 - M.1) (Me.2.1 - M.2.1) (rA G)
/-- the end of a method's walk -/
def QM (G : Gx) {α : Type} (rv : α → Option Value) (x : Cx) (M0 : Mem) (r : α) (Me : Mem) : State → Prop := MQ (xb x) (QC G rv r Me) (xa x) (xs x) (Me.1 - M0.1) (Me.2.1 - M0.2.1) (rA G)
def bd {α β : Type} (c : Option (α × Mem)) (k : α → Mem → Option β) : Option β := match c with
  | some (r, M) => k r M
  | none => none
def cV {α β : Type} (M : Mem) (ci b : Nat) (c : Option (α × Mem)) (k : α → Mem → Option β) : Option β := if okO M ci b = true then bd c k else none
def retZ {β : Type} (v : Int32) (k : Option β) : Option β := if v = 0 ∨ v = 1 then k else none
theorem AOA.moved {u U : State} (hvm : u.vm.Alike U.vm) (h : AOA u) : AOA U := by
  unfold AOA Cond.before Cond.holds at h
  simp only [Cond.value, beq_iff_eq] at h
  cases hc : u.vm.findClass (FieldType.array .int).toString with
  | none => simp [hc] at h
  | some comp =>
    simp only [hc, Option.bind_some, Option.bind_eq_some_iff, Option.map_eq_some_iff] at h
    obtain ⟨c, hi, k, hk, hb⟩ := h
    obtain ⟨k', hk', he⟩ := hvm.2.2 _ _ hk
    have hi2 : (U.vm.classes.findIdx? fun (x : Class) => match x.kind with | .array component _ => component == comp | _ => false) = some c := by
      have e1 := va_idx_bare U.vm comp
      have e2 := va_idx_bare u.vm comp
      have e3 : U.vm.bare = u.vm.bare := by first | exact hvm.bare_eq | exact hvm.bare_eq.symm
      rw [e3] at e1
      exact e1.symm.trans (e2.trans hi)
    have hkd : k'.kind = k.kind := by rw [he]
    have f1 : U.vm.findClass (FieldType.array .int).toString = some comp := by rw [hvm.findClass]; exact hc
    have f2 : ∀ n, U.vm.findClass n = u.vm.findClass n := fun n => hvm.findClass n _
    unfold AOA Cond.before Cond.holds
    simp only [Cond.value]
    rw [f1, Option.bind_some]
    refine (congrArg (fun o : Option Nat => (o.bind (fun c => (U.vm.classes[c]?).map fun (k : Class) => match k.kind with | .array _ ty => decide (ty = FieldType.array .int) && decide (U.vm.findClass ("[" ++ (FieldType.array .int).toString) = some c) | _ => false) == some true)) hi2).trans ?_
    simp only [Option.bind_some, hk', Option.map_some, hkd, f2]
    exact beq_iff_eq.mpr (congrArg some hb)
theorem Kn_move {G : Gx} {s U : State} (h : Kn G s) (hW : s.WarmedH U.vm) (hF : va_F (rA G) s U) : Kn G U := by
  obtain ⟨h1, h2, h3, h4, h5, h6, h7, h8⟩ := h
  refine ⟨va_K.moved hW.alike h1, h2, Nat.le_trans h3 hF.1, fun j C n d hj => ?_, fun q hq => (h5 q hq).warmM hW, va_AO.moved hW.alike h6, AOA.moved hW.alike h7, fun c hc cell hq => State.isArrayOf_alike hW.alike (h8 c hc cell (by rw [← hF.2 _ (Nat.lt_of_lt_of_le (h2 c hc) h3) (Nat.not_le.mpr (h2 c hc))]; exact hq))⟩
  obtain ⟨cf, kf, fi, f, a, cell, g1, g2, g3, g4, g5, g6, g7, g8⟩ := va_Z.moved hW.alike (h4 j C n d hj)
  exact ⟨cf, kf, fi, f, a, cell, g1, g2, g3, g4, by rw [hF.2 a (Array.getElem?_eq_some_iff.mp g5).1 g8]; exact g5, g6, g7, g8⟩
theorem Kn_blind {G : Gx} {U : State} (h : Kn G U) (g : JFrame) (mk : MethodId) (a : Array Value) : Kn G (U.calling g mk a) := by
  obtain ⟨h1, h2, h3, h4, h5, h6, h7, h8⟩ := h
  exact ⟨va_K.moved (u := U) (U := U.calling g mk a) (Vm.Alike.refl U.vm) h1, h2, h3, fun j C n d hj => va_Z.moved (u := U) (U := U.calling g mk a) (Vm.Alike.refl U.vm) (h4 j C n d hj), fun q hq => va_Nw.same rfl (u := U) (U := U.calling g mk a) rfl (h5 q hq), va_AO.moved (u := U) (U := U.calling g mk a) (Vm.Alike.refl U.vm) h6, AOA.moved (u := U) (U := U.calling g mk a) (Vm.Alike.refl U.vm) h7, fun c hc cell hq => State.isArrayOf_alike (Vm.Alike.refl U.vm) (h8 c hc cell hq)⟩
section CoreF
variable {G : Gx} {l : Launch} {cc : ByteArray} {nL : Nat} {own : String} {ret : Option FieldType} {nm : String} {fr lc : Nat} {α : Type} {Q : Cx → Mem → α → Mem → State → Prop} {M M' : Mem} {pc pc' : Nat} {lv lv' : List (Nat × Value)} {st st' : List Value}
theorem qc_of {x : Cx} (A : Act G x cc nL own ret nm) {rv : α → Option Value} {r : α} {H : Heap} {locs : List Loc} (hH : Hold G M H) (hS : va_S (rA G) (xs x).heap H locs) : ∀ t : State, t.heap = H → (xs x).WarmedH t.vm → QC G rv r M (xa x) (xs x) (.returned (rv r)) t := fun t ht hW => ⟨rfl, by rw [ht]; exact hH, Kn_move A.2.2.2.2.2.2.2.2 hW (hS.F ht), hS.F ht⟩
theorem J_iret {v : Int32} (hdg : decode cc pc = .ok (.ireturn, 1)) : J G l cc nL own (some .int) nm fr lc (QM G (fun v : Int32 => some (.int v))) pc lv [.int v] M (some (v, M)) := by
  intro r Me e
  cases e
  refine ⟨⟨Nat.le_refl _, Nat.le_refl _⟩, fun x M0 e1 A f1 f2 a b c d H locs ls hH hS hl => ?_⟩
  exact W.iret A.1 A.2.1 A.2.2.2.2.2.2.1 (qc_of (rv := fun v : Int32 => some (.int v)) A hH hS) hS.2.2 hdg (hlocks := A.2.2.2.2.2.1)
theorem J_zret {v : Int32} (hdg : decode cc pc = .ok (.ireturn, 1)) : J G l cc nL own (some .boolean) nm fr lc (QM G (fun v : Int32 => some (.int v))) pc lv [.int v] M (retZ v (some (v, M))) := by
  unfold retZ
  refine J_ite (fun h => ?_) (fun _ => J_none)
  intro r Me e
  cases e
  refine ⟨⟨Nat.le_refl _, Nat.le_refl _⟩, fun x M0 e1 A f1 f2 a b c d H locs ls hH hS hl => ?_⟩
  exact W.zret A.1 A.2.1 A.2.2.2.2.2.2.1 (by rcases h with rfl | rfl <;> decide) (qc_of (rv := fun v : Int32 => some (.int v)) A hH hS) hS.2.2 hdg (hlocks := A.2.2.2.2.2.1)
theorem J_lret {v : Int64} (hdg : decode cc pc = .ok (.lreturn, 1)) : J G l cc nL own (some .long) nm fr lc (QM G (fun v : Int64 => some (.long v))) pc lv [.long v] M (some (v, M)) := by
  intro r Me e
  cases e
  refine ⟨⟨Nat.le_refl _, Nat.le_refl _⟩, fun x M0 e1 A f1 f2 a b c d H locs ls hH hS hl => ?_⟩
  exact W.lret A.1 A.2.1 A.2.2.2.2.2.2.1 (qc_of (rv := fun v : Int64 => some (.long v)) A hH hS) hS.2.2 hdg (hlocks := A.2.2.2.2.2.1)
theorem J_vret (hdg : decode cc pc = .ok (.return_, 1)) : J G l cc nL own none nm fr lc (QM G (fun _ : Unit => none)) pc lv [] M (some ((), M)) := by
  intro r Me e
  cases e
  refine ⟨⟨Nat.le_refl _, Nat.le_refl _⟩, fun x M0 e1 A f1 f2 a b c d H locs ls hH hS hl => ?_⟩
  exact W.vret A.1 A.2.1 A.2.2.2.2.2.2.1 (qc_of (r := ()) (rv := fun _ : Unit => none) A hH hS) hS.2.2 hdg (hlocks := A.2.2.2.2.2.1)
theorem J_aret {t : FieldType} {c : Nat} (hdg : decode cc pc = .ok (.areturn, 1)) : J G l cc nL own (some (.array t)) nm fr lc (QM G (fun c : Nat => some (.ref (adr G c)))) pc lv [.ref (adr G c)] M (some (c, M)) := by
  intro r Me e
  cases e
  refine ⟨⟨Nat.le_refl _, Nat.le_refl _⟩, fun x M0 e1 A f1 f2 a b c d H locs ls hH hS hl => ?_⟩
  exact W.aret A.1 A.2.1 A.2.2.2.2.2.2.1 (Or.inr ⟨t, rfl⟩) (Or.inr ⟨_, rfl⟩) (qc_of (rv := fun c : Nat => some (.ref (adr G c))) A hH hS) hS.2.2 hdg (hlocks := A.2.2.2.2.2.1)
/-- a method's walk gives its contract -/
theorem con_of {y : MethodName} {rv : α → Option Value} {args : List Value} {k : Option (α × Mem)} (hy : plainName y.cls = true) (ho : y.cls = own) (hnm : y.name = nm) (hlen : (lg_sl args).length ≤ nL)
    (h : J G l cc nL own ret nm fr lc (QM G rv) 0 (lv_args 0 args) [] M k) : Con G l y cc nL ret fr lc rv args M k := by
  intro r Me e
  refine ⟨(h r Me e).1, ?_⟩
  refine Met.ofW (cc := cc) (maxL := nL) (ret := ret) hy rfl ?_
  intro p e' s m as below meth c s₁ B hml hv
  obtain ⟨rfl, hH, hKn⟩ := hv
  have hts := atoms_spec (ws := .code y cc nL ret :: lwT) B.pre
  have hown : s.vm.findClass own = some m.cls := by rw [← ho]; exact findClass_of_methodNamed B.named
  have q := (h r Me e).2 (p, l, e', { frames := fr, cells := Me.1 - M.1, slots := Me.2.1 - M.2.1, locals := lc }, s, m, args.toArray, below, meth, c) M rfl ⟨B.exec, B.bytes, hml, hown, fun w hw => hts w (List.mem_cons_of_mem _ hw), B.notSynchronized, B.returns, (name_of_methodNamed B.named B.method).1.trans hnm, hKn⟩ (Nat.le_refl _) (Nat.le_refl _) (Nat.le_refl _) (Nat.le_refl _) (Nat.le_refl _) (Nat.le_refl _) s.heap [] _ hH va_S.rf (lv_entry args hlen)
  rw [Nat.sub_self, Nat.sub_self] at q
  rw [lg_entry_eq]
  exact q
end CoreF
end
section
/-- a method as a callee: its code is among the words, its class is initialised, how many parameters it has -/
def MOk (y : MethodName) (cc : ByteArray) (maxL : Nat) (ret : Option FieldType) (n : Nat) : Prop := Cond.code y cc maxL ret ∈ lwT ∧ Cond.initialized y.cls ∈ lwT ∧ y.cls ≠ "java/lang/invoke/MethodHandle" ∧ y.cls ≠ "java/lang/invoke/VarHandle" ∧ (parseMethodDescriptor y.desc).map (fun d => d.parameters.length) = some n
section CoreG
variable {G : Gx} {l : Launch} {cc : ByteArray} {nL : Nat} {own : String} {ret : Option FieldType} {nm : String} {fr lc : Nat} {α : Type} {Q : Cx → Mem → α → Mem → State → Prop} {M M' : Mem} {pc pc' : Nat} {lv lv' : List (Nat × Value)} {st st' : List Value}
variable {β : Type} {rv : β → Option Value} {kc : Option (β × Mem)} {k : β → Mem → Option (α × Mem)} {y : MethodName} {cc' : ByteArray} {maxL' fr' lc' n idx b ci : Nat} {ret' : Option FieldType} {As rest : List Value}
theorem run_go {x : Cx} {H : Heap} {locs : List Loc} {cells slots mc ms : Nat} {ls : Array Slot} {r : β} {Me : Mem} {a : Array Value} {Q' : State → Prop} (hr : va_Run (xp x) (xl x) (xe x) (xR x) (xs x) (xm x) (xa x) (xb x) (xt x) (xc x) H locs cells slots mc ms (F0 (xm x) pc ls st) rest (QC G rv r Me a) (rA G)) (hS : va_S (rA G) (xs x).heap H locs)
    (kk : ∀ (H1 : Heap) (locs1 : List Loc), Hold G Me H1 → va_S (rA G) (xs x).heap H1 locs1 → WW x H1 locs1 (cells + mc) (slots + ms) Q' (F0 (xm x) (pc + 3) ls ((rv r).toList ++ rest))) : WW x H locs cells slots Q' (F0 (xm x) pc ls st) := by
  intro T hT X
  obtain ⟨v, st₀, t, T', L, h0, X', hL, e1, e2, ⟨hv, hH1, hK1, hz, hk⟩, go⟩ := hr T hT X
  cases hv
  rw [h0] at hz hk
  obtain ⟨t2, a1, b1⟩ := kk T'.heap (locs ++ L) (by rw [e1]; exact hH1)
    ⟨Nat.le_trans hS.1 (by rw [e1]; exact hz), fun q h1 h2 => by rw [e1, hk q (Nat.lt_of_lt_of_le h1 hS.1) h2]; exact hS.2.1 q h1 h2, fun q hq => by
      rcases List.mem_append.mp hq with h | h
      · exact hS.2.2 q h
      · exact hL q h⟩ T' rfl X'
  exact ⟨t2, go t2 a1, b1⟩
theorem pc_blind {args : List Value} : FrameBlind (va_Pc args (fun U => Hold G M U.heap ∧ Kn G U)) := fun a U g mk h => ⟨h.1, h.2.1, Kn_blind h.2.2 g mk a⟩
theorem pc_pre {x : Cx} (A : Act G x cc nL own ret nm) {H : Heap} {locs : List Loc} {args : List Value} (hH : Hold G M H) (hS : va_S (rA G) (xs x).heap H locs) : ∀ U : State, U.heap = H → (xs x).WarmedH U.vm → va_Pc args (fun U => Hold G M U.heap ∧ Kn G U) args.toArray U := fun U hU hW => ⟨rfl, by rw [hU]; exact hH, Kn_move A.2.2.2.2.2.2.2.2 hW (hS.F hU)⟩
/-- out of a callee's run to the walk behind it -/
theorem J_ofRun (hC : Con G l y cc' maxL' ret' fr' lc' rv As M kc)
    (h : ∀ (x : Cx) (A : Act G x cc nL own ret nm) (r : β) (M1 : Mem) (H : Heap) (locs : List Loc) (ls : Array Slot) (cells slots : Nat), xl x = l → fr ≤ (xR x).frames → lc ≤ (xR x).locals → cells + (M1.1 - M.1) ≤ (xR x).cells → slots + (M1.2.1 - M.2.1) ≤ (xR x).slots → Hold G M H → va_S (rA G) (xs x).heap H locs → lv_has ls nL lv → Met (xl x) y (.code y cc' maxL' ret' :: lwT) { frames := fr', cells := M1.1 - M.1, slots := M1.2.1 - M.2.1, locals := lc' } (va_Pc As (fun U => Hold G M U.heap ∧ Kn G U)) (QC G rv r M1) (M1.1 - M.1) (M1.2.1 - M.2.1) (rA G) →
      va_Run (xp x) (xl x) (xe x) (xR x) (xs x) (xm x) (xa x) (xb x) (xt x) (xc x) H locs cells slots (M1.1 - M.1) (M1.2.1 - M.2.1) (F0 (xm x) pc ls st) rest (QC G rv r M1 As.toArray) (rA G))
    (k1 : ∀ r M1, J G l cc nL own ret nm fr lc Q (pc + 3) lv ((rv r).toList ++ rest) M1 (k r M1)) : J G l cc nL own ret nm fr lc Q pc lv st M (bd kc k) := by
  intro r Me e
  cases hk : kc with
  | none => rw [hk] at e; cases e
  | some z =>
    obtain ⟨r1, M1⟩ := z
    rw [hk] at e
    have e : k r1 M1 = some (r, Me) := e
    obtain ⟨⟨g1, g2⟩, hM⟩ := hC r1 M1 hk
    obtain ⟨⟨g3, g4⟩, go⟩ := k1 r1 M1 r Me e
    refine ⟨⟨Nat.le_trans g1 g3, Nat.le_trans g2 g4⟩, fun x M0 e1 A f1 f2 a b c d H locs ls hH hS hl => ?_⟩
    refine run_go (h x A r1 M1 H locs ls _ _ e1 f1 f2 (by omega) (by omega) hH hS hl (by rw [e1]; exact hM)) hS (fun H1 locs1 hH1 hS1 => ?_)
    have q := go x M0 e1 A f1 f2 (Nat.le_trans a g1) (Nat.le_trans b g2) c d H1 locs1 ls hH1 hS1 hl
    rw [show M.1 - M0.1 + (M1.1 - M.1) = M1.1 - M0.1 by omega, show M.2.1 - M0.2.1 + (M1.2.1 - M.2.1) = M1.2.1 - M0.2.1 by omega]
    exact q
theorem J_callV (hC : Con G l y cc' maxL' ret' fr' lc' rv (.ref (adr G b) :: As) M kc) (hm : MOk y cc' maxL' ret' As.length) (T : u_T) (N : Nat) (hq : vwCl[ci]? = some (y.cls, T, N)) (w2 : Cond.methodLink own idx y ∈ lwT) (w3 : Cond.instanceMethod y ∈ lwT) (w4 : Cond.selects y.cls y y ∈ lwT) (hR : fr' + 1 ≤ fr ∧ 8 + (maxL' + 11) + lc' ≤ lc)
    (hst : st = As.reverse ++ .ref (adr G b) :: rest) (hrm : (rest.map fun v => v.category).sum ≤ 8) (hdg : decode cc pc = .ok (.invokevirtual idx, 3))
    (k1 : ∀ r M1, J G l cc nL own ret nm fr lc Q (pc + 3) lv ((rv r).toList ++ rest) M1 (k r M1)) : J G l cc nL own ret nm fr lc Q pc lv st M (cV M ci b kc k) := by
  unfold cV
  refine J_ite (fun h => ?_) (fun _ => J_none)
  obtain ⟨hc, -, e⟩ := okO_spec h
  refine J_ofRun hC (fun x A r M1 H locs ls cells slots e1 f1 f2 c1 c2 hH hS hl hM => ?_) k1
  have hts := A.2.2.2.2.1
  exact va_runV (As := As) (rest := rest) (C := y.cls) (Ts := lwT) (nL := nL) (cc := cc) (own := own) ⟨A.1, A.2.1, A.2.2.1, A.2.2.2.1, hts⟩ hM ⟨callB_of (ws' := lwT) As.length hts (good_tbl hm.1) rfl rfl rfl (hts _ hm.2.1) (hts _ w2) hm.2.2 ⟨Nat.le_trans hR.1 f1, Nat.le_trans hR.2 f2⟩, hts _ w3, hts _ w4⟩ ⟨pc_blind, va_recv A.2.2.2.2.2.2.2.2.1 (va_P1 (hold_obj hH hc e)) (ci := ci) (q0 := 0) hq rfl, pc_pre A hH hS⟩ rfl rfl hl.1 hst (lv_room hrm) hdg ⟨c1, c2⟩
theorem J_callS (hC : Con G l y cc' maxL' ret' fr' lc' rv As M kc) (hm : MOk y cc' maxL' ret' As.length) (w2 : Cond.methodLink own idx y ∈ lwT) (w3 : Cond.static y ∈ lwT) (hR : fr' + 1 ≤ fr ∧ 8 + (maxL' + 11) + lc' ≤ lc)
    (hst : st = As.reverse ++ rest) (hrm : (rest.map fun v => v.category).sum ≤ 8) (hdg : decode cc pc = .ok (.invokestatic idx, 3))
    (k1 : ∀ r M1, J G l cc nL own ret nm fr lc Q (pc + 3) lv ((rv r).toList ++ rest) M1 (k r M1)) : J G l cc nL own ret nm fr lc Q pc lv st M (bd kc k) := by
  refine J_ofRun hC (fun x A r M1 H locs ls cells slots e1 f1 f2 c1 c2 hH hS hl hM => ?_) k1
  have hts := A.2.2.2.2.1
  exact va_runS (As := As) (rest := rest) (Ts := lwT) (nL := nL) (cc := cc) (own := own) ⟨A.1, A.2.1, A.2.2.1, A.2.2.2.1, hts⟩ hM ⟨callB_of (ws' := lwT) As.length hts (good_tbl hm.1) rfl rfl rfl (hts _ hm.2.1) (hts _ w2) hm.2.2 ⟨Nat.le_trans hR.1 f1, Nat.le_trans hR.2 f2⟩, hts _ w3⟩ ⟨pc_blind, pc_pre A hH hS⟩ rfl rfl hl.1 hst (lv_room hrm) hdg ⟨c1, c2⟩
theorem J_callSN {host : String} (hC : Con G l y cc' maxL' ret' fr' lc' rv As M kc) (hm : MOk y cc' maxL' ret' As.length) (w2 : (own, idx, y, host) ∈ lwN) (w3 : Cond.static y ∈ lwT) (hR : fr' + 1 ≤ fr ∧ 8 + (maxL' + 11) + lc' ≤ lc)
    (hst : st = As.reverse ++ rest) (hrm : (rest.map fun v => v.category).sum ≤ 8) (hdg : decode cc pc = .ok (.invokestatic idx, 3))
    (k1 : ∀ r M1, J G l cc nL own ret nm fr lc Q (pc + 3) lv ((rv r).toList ++ rest) M1 (k r M1)) : J G l cc nL own ret nm fr lc Q pc lv st M (bd kc k) := by
  refine J_ofRun hC (fun x A r M1 H locs ls cells slots e1 f1 f2 c1 c2 hH hS hl hM => ?_) k1
  have hts := A.2.2.2.2.1
  exact va_runSN (As := As) (rest := rest) (Ts := lwT) (nL := nL) (cc := cc) (own := own) (host := host) ⟨A.1, A.2.1, A.2.2.1, A.2.2.2.1, hts⟩ hM ⟨va_cnB (ws' := lwT) As.length hts (good_tbl hm.1) rfl rfl rfl (A.2.2.2.2.2.2.2.2.2.2.2.2.1 _ w2) (hts _ hm.2.1) hm.2.2 ⟨Nat.le_trans hR.1 f1, Nat.le_trans hR.2 f2⟩, hts _ w3, trivial⟩ ⟨pc_blind, pc_pre A hH hS⟩ rfl rfl hl.1 hst (lv_room hrm) hdg ⟨c1, c2⟩
theorem J_callI (hC : Con G l y cc' maxL' none fr' lc' rv (.ref (adr G b) :: As) M kc) (hm : MOk y cc' maxL' none As.length) (hy : y.name = "<init>") (w2 : Cond.methodLink own idx y ∈ lwT) (w3 : Cond.instanceMethod y ∈ lwT) (hR : fr' + 1 ≤ fr ∧ 8 + (maxL' + 11) + lc' ≤ lc)
    (hst : st = As.reverse ++ .ref (adr G b) :: rest) (hrm : (rest.map fun v => v.category).sum ≤ 8) (hdg : decode cc pc = .ok (.invokespecial idx, 3))
    (k1 : ∀ r M1, J G l cc nL own ret nm fr lc Q (pc + 3) lv ((rv r).toList ++ rest) M1 (k r M1)) : J G l cc nL own ret nm fr lc Q pc lv st M (bd kc k) := by
  refine J_ofRun hC (fun x A r M1 H locs ls cells slots e1 f1 f2 c1 c2 hH hS hl hM => ?_) k1
  have hts := A.2.2.2.2.1
  exact va_runI (As := As) (rest := rest) (Ts := lwT) (nL := nL) (cc := cc) (own := own) ⟨A.1, A.2.1, A.2.2.1, A.2.2.2.1, hts⟩ hM ⟨callB_of (ws' := lwT) As.length hts (good_tbl hm.1) rfl rfl rfl (hts _ hm.2.1) (hts _ w2) hm.2.2 ⟨Nat.le_trans hR.1 f1, Nat.le_trans hR.2 f2⟩, hy, hts _ w3⟩ ⟨pc_blind, pc_pre A hH hS⟩ rfl rfl hl.1 hst (lv_room hrm) hdg ⟨c1, c2⟩
theorem J_callIN {host : String} (hC : Con G l y cc' maxL' none fr' lc' rv (.ref (adr G b) :: As) M kc) (hm : MOk y cc' maxL' none As.length) (hy : y.name = "<init>") (w2 : (own, idx, y, host) ∈ lwN) (w3 : Cond.instanceMethod y ∈ lwT) (hR : fr' + 1 ≤ fr ∧ 8 + (maxL' + 11) + lc' ≤ lc)
    (hst : st = As.reverse ++ .ref (adr G b) :: rest) (hrm : (rest.map fun v => v.category).sum ≤ 8) (hdg : decode cc pc = .ok (.invokespecial idx, 3))
    (k1 : ∀ r M1, J G l cc nL own ret nm fr lc Q (pc + 3) lv ((rv r).toList ++ rest) M1 (k r M1)) : J G l cc nL own ret nm fr lc Q pc lv st M (bd kc k) := by
  refine J_ofRun hC (fun x A r M1 H locs ls cells slots e1 f1 f2 c1 c2 hH hS hl hM => ?_) k1
  have hts := A.2.2.2.2.1
  exact va_runIN (As := As) (rest := rest) (Ts := lwT) (nL := nL) (cc := cc) (own := own) (host := host) ⟨A.1, A.2.1, A.2.2.1, A.2.2.2.1, hts⟩ hM ⟨va_cnB (ws' := lwT) As.length hts (good_tbl hm.1) rfl rfl rfl (A.2.2.2.2.2.2.2.2.2.2.2.2.1 _ w2) (hts _ hm.2.1) hm.2.2 ⟨Nat.le_trans hR.1 f1, Nat.le_trans hR.2 f2⟩, hy, hts _ w3⟩ ⟨pc_blind, pc_pre A hH hS⟩ rfl rfl hl.1 hst (lv_room hrm) hdg ⟨c1, c2⟩
theorem J_objInit {c : Nat} {k : Option (α × Mem)} (w1 : Cond.methodLink own idx Lib.objectInit ∈ lwT) (w2 : Cond.instanceMethod Lib.objectInit ∈ lwT) (w3 : Cond.code Lib.objectInit ⟨#[0xb1]⟩ 1 none ∈ lwT) (hR : 1 ≤ fr ∧ 20 ≤ lc) (hrm : (st.map fun v => v.category).sum ≤ 8) (hdg : decode cc pc = .ok (.invokespecial idx, 3)) (k1 : J G l cc nL own ret nm fr lc Q (pc + 3) lv st M k) : J G l cc nL own ret nm fr lc Q pc lv (.ref (adr G c) :: st) M k := by
  intro r Me e
  refine ⟨(k1 r Me e).1, fun x M0 e1 A f1 f2 a b c' d H locs ls hH hS hl => ?_⟩
  have hts := A.2.2.2.2.1
  have h8 := lv_room (m := xm x) (pc := pc) (ls := ls) (rest := st) hrm
  refine W.objInit A.1 A.2.1 (own := own) A.2.2.2.1 (hts _ w1) (hts _ w2) (hts _ w3) (g := F0 (xm x) pc ls (.ref (adr G c) :: st)) rfl (hl.1.trans A.2.2.1.symm) rfl hdg (Nat.le_trans hR.1 f1) (Nat.le_trans (Nat.le_trans (Nat.add_le_add_right h8 12) hR.2) f2) ?_
  exact (k1 r Me e).2 x M0 e1 A f1 f2 a b c' d H locs ls hH hS hl
end CoreG
end
section
def u1 {α : Type} (f : Nat → Nat → α) (c : Nat) (g : Nat → α) : Nat → Nat → α := fun c' => if c' = c then g else f c'
theorem u1_ne {α : Type} {f : Nat → Nat → α} {c c' : Nat} {g : Nat → α} (h : c' ≠ c) : u1 f c g c' = f c' := by unfold u1; rw [if_neg h]
theorem u1_eq {α : Type} {f : Nat → Nat → α} {c : Nat} {g : Nat → α} : u1 f c g c = g := by unfold u1; rw [if_pos rfl]
def okC (M : Mem) (ty : FieldType) (c : Nat) (sp : Int32) (d : Nat) (dp n : Int32) : Bool := (decide (c < M.1) && (decide (d < M.1) && (decide (nS ≤ d ∧ nS ≤ c) && decide (¬ sp < 0 ∧ ¬ dp < 0 ∧ ¬ n < 0)))) && (match mSh M c, mSh M d with
  | .inl (t, n0), .inl (t', n1) => (decide (t = ty) && decide (t' = ty)) && (decide (sp.toNatClampNeg + n.toNatClampNeg ≤ n0) && decide (dp.toNatClampNeg + n.toNatClampNeg ≤ n1))
  | _, _ => false)
theorem okC_spec {M : Mem} {ty : FieldType} {c d : Nat} {sp dp n : Int32} (h : okC M ty c sp d dp n = true) : c < M.1 ∧ d < M.1 ∧ (nS ≤ d ∧ nS ≤ c) ∧ (¬ sp < 0 ∧ ¬ dp < 0 ∧ ¬ n < 0) ∧ ∃ n0 n1, mSh M c = .inl (ty, n0) ∧ mSh M d = .inl (ty, n1) ∧ sp.toNatClampNeg + n.toNatClampNeg ≤ n0 ∧ dp.toNatClampNeg + n.toNatClampNeg ≤ n1 := by
  unfold okC at h
  rw [Bool.and_eq_true, Bool.and_eq_true, Bool.and_eq_true, Bool.and_eq_true] at h
  obtain ⟨⟨h1, h2, h3, h4⟩, h5⟩ := h
  refine ⟨of_decide_eq_true h1, of_decide_eq_true h2, of_decide_eq_true h3, of_decide_eq_true h4, ?_⟩
  split at h5
  · next t n0 t' n1 e1 e2 =>
    rw [Bool.and_eq_true, Bool.and_eq_true, Bool.and_eq_true] at h5
    obtain ⟨⟨g1, g2⟩, g3, g4⟩ := h5
    have g1 := of_decide_eq_true g1
    have g2 := of_decide_eq_true g2
    subst g1
    subst g2
    exact ⟨n0, n1, e1, e2, of_decide_eq_true g3, of_decide_eq_true g4⟩
  · cases h5
theorem okC_of {M : Mem} {ty : FieldType} {c d n0 n1 : Nat} {sp dp n : Int32} (h1 : c < M.1) (h2 : d < M.1) (h3 : nS ≤ d ∧ nS ≤ c) (h4 : ¬ sp < 0 ∧ ¬ dp < 0 ∧ ¬ n < 0) (e1 : mSh M c = .inl (ty, n0)) (e2 : mSh M d = .inl (ty, n1)) (h5 : sp.toNatClampNeg + n.toNatClampNeg ≤ n0) (h6 : dp.toNatClampNeg + n.toNatClampNeg ≤ n1) : okC M ty c sp d dp n = true := by
  unfold okC
  rw [e1, e2]
  simp only [Bool.and_eq_true, decide_eq_true_eq]
  exact ⟨⟨h1, h2, h3, h4⟩, ⟨trivial, trivial⟩, h5, h6⟩
def cpM (M : Mem) (c : Nat) (sp : Int32) (d : Nat) (dp n : Int32) : Mem := (M.1, M.2.1, mSh M, mR M, u1 (mI M) d (va_cpy (mI M c) (mI M d) sp.toNatClampNeg dp.toNatClampNeg n.toNatClampNeg), mJ M)
def cpL (M : Mem) (c : Nat) (sp : Int32) (d : Nat) (dp n : Int32) : Mem := (M.1, M.2.1, mSh M, mR M, mI M, u1 (mJ M) d (va_cpy (mJ M c) (mJ M d) sp.toNatClampNeg dp.toNatClampNeg n.toNatClampNeg))
def cpI {β : Type} (M : Mem) (ty : FieldType) (c : Nat) (sp : Int32) (d : Nat) (dp n : Int32) (k : Mem → Option β) : Option β := if okC M ty c sp d dp n = true ∧ ∀ i, i < n.toNatClampNeg → fits ty (.int (mI M c (sp.toNatClampNeg + i))) = true then k (cpM M c sp d dp n) else none
def cpJ {β : Type} (M : Mem) (c : Nat) (sp : Int32) (d : Nat) (dp n : Int32) (k : Mem → Option β) : Option β := if okC M .long c sp d dp n = true then k (cpL M c sp d dp n) else none
theorem nn32 (z : Int32) (hz : ¬ z < 0) : z.toInt = (z.toNatClampNeg : Int) := by
  have hz0 : (0 : Int) ≤ z.toInt := by
    have := Int32.not_lt.mp hz
    simpa using Int32.le_iff_toInt_le.mp this
  show z.toInt = ((z.toInt.toNat : Nat) : Int)
  omega
section CoreH
variable {G : Gx} {l : Launch} {cc : ByteArray} {nL : Nat} {own : String} {ret : Option FieldType} {nm : String} {fr lc : Nat} {α : Type} {Q : Cx → Mem → α → Mem → State → Prop} {M M' : Mem} {pc pc' : Nat} {lv lv' : List (Nat × Value)} {st st' : List Value}
theorem J_gets {k : Option (α × Mem)} {j idx : Nat} {C n d : String} (hj : sTab[j]? = some (C, n, d)) (hlt : j < nS) (hw : Cond.fieldLink own idx C n d ∈ lwT) (hdg : decode cc pc = .ok (.getstatic idx, 3)) (k1 : J G l cc nL own ret nm fr lc Q (pc + 3) lv (.ref (adr G j) :: st) M k) : J G l cc nL own ret nm fr lc Q pc lv st M k := by
  refine J_stepH (fun x A H _ _ _ _ _ hH hS _ w => ?_) k1
  have hZ := A.2.2.2.2.2.2.2.2.2.2.2.1 j C n d hj
  have e : adr G j = G.2.2.2 j := by unfold adr; rw [if_pos hlt]
  rw [e] at w
  exact va_gets A.1 A.2.1 hZ hS A.2.2.2.1 (A.2.2.2.2.1 _ hw) (fun _ h => h) hdg w
theorem J_copyI {ty : FieldType} {t0 : Nat} (ht : ∀ D : va_G, ∀ f : FieldType → ClassId, ∀ a : Nat, ∀ b : Nat → Nat, (tysG (D, f, a, b))[t0]? = some (f ty, ty)) (hrow : ∀ (G : Gx) (M : Mem) (c : Nat), rowOf G M c ty = .inl (mI M c)) (hprim : refKind ty = false) {k : Mem → Option (α × Mem)} {c d idx : Nat} {sp dp n : Int32} (w1 : Cond.methodLink own idx arraycopyName ∈ lwT) (w2 : Cond.native arraycopyName ∈ lwT) (w3 : Cond.static arraycopyName ∈ lwT) (w4 : Cond.initialized "java/lang/System" ∈ lwT) (hR : 1 ≤ fr ∧ (st.map fun v => v.category).sum + (nativeFrameWords "java/lang/System" "arraycopy" 5 + 11) ≤ lc) (hdg : decode cc pc = .ok (.invokestatic idx, 3))
    (k1 : J G l cc nL own ret nm fr lc Q (pc + 3) lv st (cpM M c sp d dp n) (k (cpM M c sp d dp n))) : J G l cc nL own ret nm fr lc Q pc lv (.int n :: .int dp :: .ref (adr G d) :: .int sp :: .ref (adr G c) :: st) M (cpI M ty c sp d dp n k) := by
  unfold cpI
  refine J_ite (fun h => ?_) (fun _ => J_none)
  obtain ⟨hfc, hfit⟩ := h
  obtain ⟨q1, q2, ⟨q3, q4⟩, ⟨h1, h2, h3⟩, n0, n1, s1, s2, h4, h5⟩ := okC_spec hfc
  intro r Me e
  refine ⟨(k1 r Me e).1, fun x M0 e1 A f1 f2 a b cq dq H locs ls hH hS hl => ?_⟩
  have hts := A.2.2.2.2.1
  have hK := A.2.2.2.2.2.2.2.2.1
  have hc0 : H[adr G c]? = some (vp_cell (G.2.1 ty) (n0, .inl (mI M c))) := by have z := hold_arr hH q4 q1 s1; rw [hrow] at z; exact z
  have hc1 : H[adr G d]? = some (vp_cell (G.2.1 ty) (n1, .inl (mI M d))) := by have z := hold_arr hH q3 q2 s2; rw [hrow] at z; exact z
  intro T hT X
  obtain ⟨-, k0, hk0, cm0, hkk0⟩ := (hK.2 t0 _ (ht _ _ _ _)).1 n0 (fun j => .int (mI M c j))
  obtain ⟨-, k9, hk9, cm9, hkk9⟩ := (hK.2 t0 _ (ht _ _ _ _)).1 n1 (fun j => .int (mI M d j))
  obtain ⟨vm', X', step⟩ := X.arraycopy A.1 (own := own) A.2.2.2.1 (hts _ w1) (hts _ w2) (hts _ w3) (hts _ w4) (src := adr G c) (dst := adr G d) (cs := vp_cell (G.2.1 ty) (n0, .inl (mI M c))) (cd := vp_cell (G.2.1 ty) (n1, .inl (mI M d))) (srcPos := sp) (destPos := dp) (n := n) (by rw [hT]; exact hc0) (by rw [hT]; exact hc1)
    (fun _ h => by cases h) (fun _ h => by cases h) (fun h => by cases h) (fun h => by cases h) hk0 hk9 hkk0 hkk9 (by simp [hprim]) h1 h2 h3
    (by rw [nn32 sp h1, nn32 n h3]; show ¬ _ > ((arrV _ n0 (fun j => .int (mI M c j))).slots.size : Int); rw [arrV_size]; omega)
    (by rw [nn32 dp h2, nn32 n h3]; show ¬ _ > ((arrV _ n1 (fun j => .int (mI M d j))).slots.size : Int); rw [arrV_size]; omega)
    (fun vm₁ _ i hi => by
      have e : (vp_cell (G.2.1 ty) (n0, .inl (mI M c))).slots.getD (sp.toNatClampNeg + i) .null = .int (mI M c (sp.toNatClampNeg + i)) := by
        show (arrV _ n0 (fun j => .int (mI M c j))).slots.getD _ _ = _
        rw [Array.getD_eq_getD_getElem?, arrV_read _ _ (by omega)]
        rfl
      refine ⟨?_, ?_⟩
      · rw [e]
        exact hfit i hi
      · rw [e]
        exact trivial)
    (g := F0 (xm x) pc ls (.int n :: .int dp :: .ref (adr G d) :: .int sp :: .ref (adr G c) :: st)) rfl (by rw [A.2.2.1]; exact hl.1) (rest := st) rfl (by rw [A.2.1]; exact hdg) (Nat.le_trans hR.1 f1) (by show 2 * 0 + _ + _ ≤ _; have := Nat.le_trans hR.2 f2; omega)
  have e1 : copied (vp_cell (G.2.1 ty) (n0, .inl (mI M c))) (vp_cell (G.2.1 ty) (n1, .inl (mI M d))) sp dp n = vp_cell (G.2.1 ty) (n1, .inl (va_cpy (mI M c) (mI M d) sp.toNatClampNeg dp.toNatClampNeg n.toNatClampNeg)) := va_copied (fun z => .int z) _ _ _ _ h4
  rw [e1] at X' step
  have hlH : adr G d < H.size := (Array.getElem?_eq_some_iff.mp hc1).1
  generalize hN : vp_cell (G.2.1 ty) (n1, .inl (va_cpy (mI M c) (mI M d) sp.toNatClampNeg dp.toNatClampNeg n.toNatClampNeg)) = N at X' step
  have hheap : ((T.setVm vm').setCell (adr G d) N).heap = H.setIfInBounds (adr G d) N := by rw [← hT]; rfl
  have oq : ∀ q : Nat, q ≠ adr G d → (H.setIfInBounds (adr G d) N)[q]? = H[q]? := fun q hq => by simp [Array.getElem?_setIfInBounds, Ne.symm hq]
  have hcn : cont G (cpM M c sp d dp n) d = .inl (G.2.1 ty, n1, .inl (va_cpy (mI M c) (mI M d) sp.toNatClampNeg dp.toNatClampNeg n.toNatClampNeg)) := by
    unfold cont
    rw [show mSh (cpM M c sp d dp n) d = .inl (ty, n1) from s2]
    show (Sum.inl (G.2.1 ty, n1, rowOf G (cpM M c sp d dp n) d ty) : va_E) = _
    rw [hrow]
    show (Sum.inl (G.2.1 ty, n1, .inl (u1 (mI M) d _ d)) : va_E) = _
    rw [u1_eq]
  have hH1 : Hold G (cpM M c sp d dp n) (H.setIfInBounds (adr G d) N) := hold_set hH A.2.2.2.2.2.2.2.2.2.1 q3 rfl (by simp) oq (fun c' q => ⟨rfl, rfl, u1_ne q, rfl⟩) (by rw [hcn]; show (H.setIfInBounds _ _)[_]? = some (vp_cell _ _); rw [hN]; simp [Array.getElem?_setIfInBounds, hlH])
  obtain ⟨t, a1, b1⟩ := (k1 r Me e).2 x M0 (by assumption) A f1 f2 a b cq dq (H.setIfInBounds (adr G d) N) _ ls hH1 ⟨by simp; exact hS.1, fun q g1 g2 => by
      rw [oq q (fun e => g2 (by rw [e]; exact adr_rA q3))]
      exact hS.2.1 q g1 g2, fun q hq => by
      rcases List.mem_append.mp hq with h | h
      · exact hS.2.2 q h
      · obtain ⟨z, -, hz⟩ := List.mem_map.mp h
        rw [← hz]
        exact adr_rA q3⟩ hl _ hheap X'
  exact ⟨t, step t a1, b1⟩
theorem J_copyJ {k : Mem → Option (α × Mem)} {c d idx : Nat} {sp dp n : Int32} (w1 : Cond.methodLink own idx arraycopyName ∈ lwT) (w2 : Cond.native arraycopyName ∈ lwT) (w3 : Cond.static arraycopyName ∈ lwT) (w4 : Cond.initialized "java/lang/System" ∈ lwT) (hR : 1 ≤ fr ∧ (st.map fun v => v.category).sum + (nativeFrameWords "java/lang/System" "arraycopy" 5 + 11) ≤ lc) (hdg : decode cc pc = .ok (.invokestatic idx, 3))
    (k1 : J G l cc nL own ret nm fr lc Q (pc + 3) lv st (cpL M c sp d dp n) (k (cpL M c sp d dp n))) : J G l cc nL own ret nm fr lc Q pc lv (.int n :: .int dp :: .ref (adr G d) :: .int sp :: .ref (adr G c) :: st) M (cpJ M c sp d dp n k) := by
  unfold cpJ
  refine J_ite (fun h => ?_) (fun _ => J_none)
  obtain ⟨q1, q2, ⟨q3, q4⟩, ⟨h1, h2, h3⟩, n0, n1, s1, s2, h4, h5⟩ := okC_spec h
  intro r Me e
  refine ⟨(k1 r Me e).1, fun x M0 e1 A f1 f2 a b cq dq H locs ls hH hS hl => ?_⟩
  have hts := A.2.2.2.2.1
  have hK := A.2.2.2.2.2.2.2.2.1
  have hc0 : H[adr G c]? = some (vp_cell (G.2.1 .long) (n0, .inr (.inl (mJ M c)))) := hold_arr hH q4 q1 s1
  have hc1 : H[adr G d]? = some (vp_cell (G.2.1 .long) (n1, .inr (.inl (mJ M d)))) := hold_arr hH q3 q2 s2
  intro T hT X
  obtain ⟨-, k0, hk0, cm0, hkk0⟩ := (hK.2 3 _ rfl).1 n0 (fun j => .long (mJ M c j))
  obtain ⟨-, k9, hk9, cm9, hkk9⟩ := (hK.2 3 _ rfl).1 n1 (fun j => .long (mJ M d j))
  obtain ⟨vm', X', step⟩ := X.arraycopy A.1 (own := own) A.2.2.2.1 (hts _ w1) (hts _ w2) (hts _ w3) (hts _ w4) (src := adr G c) (dst := adr G d) (cs := vp_cell (G.2.1 .long) (n0, .inr (.inl (mJ M c)))) (cd := vp_cell (G.2.1 .long) (n1, .inr (.inl (mJ M d)))) (srcPos := sp) (destPos := dp) (n := n) (by rw [hT]; exact hc0) (by rw [hT]; exact hc1)
    (fun _ h => by cases h) (fun _ h => by cases h) (fun h => by cases h) (fun h => by cases h) hk0 hk9 hkk0 hkk9 (by simp [refKind]) h1 h2 h3
    (by rw [nn32 sp h1, nn32 n h3]; show ¬ _ > ((arrV _ n0 (fun j => .long (mJ M c j))).slots.size : Int); rw [arrV_size]; omega)
    (by rw [nn32 dp h2, nn32 n h3]; show ¬ _ > ((arrV _ n1 (fun j => .long (mJ M d j))).slots.size : Int); rw [arrV_size]; omega)
    (fun vm₁ _ i hi => by
      have e : (vp_cell (G.2.1 .long) (n0, .inr (.inl (mJ M c)))).slots.getD (sp.toNatClampNeg + i) .null = .long (mJ M c (sp.toNatClampNeg + i)) := by
        show (arrV _ n0 (fun j => .long (mJ M c j))).slots.getD _ _ = _
        rw [Array.getD_eq_getD_getElem?, arrV_read _ _ (by omega)]
        rfl
      refine ⟨?_, ?_⟩
      · rw [e]
        rfl
      · rw [e]
        exact trivial)
    (g := F0 (xm x) pc ls (.int n :: .int dp :: .ref (adr G d) :: .int sp :: .ref (adr G c) :: st)) rfl (by rw [A.2.2.1]; exact hl.1) (rest := st) rfl (by rw [A.2.1]; exact hdg) (Nat.le_trans hR.1 f1) (by show 2 * 0 + _ + _ ≤ _; have := Nat.le_trans hR.2 f2; omega)
  have e1 : copied (vp_cell (G.2.1 .long) (n0, .inr (.inl (mJ M c)))) (vp_cell (G.2.1 .long) (n1, .inr (.inl (mJ M d)))) sp dp n = vp_cell (G.2.1 .long) (n1, .inr (.inl (va_cpy (mJ M c) (mJ M d) sp.toNatClampNeg dp.toNatClampNeg n.toNatClampNeg))) := va_copied (fun z => .long z) _ _ _ _ h4
  rw [e1] at X' step
  have hlH : adr G d < H.size := (Array.getElem?_eq_some_iff.mp hc1).1
  generalize hN : vp_cell (G.2.1 .long) (n1, .inr (.inl (va_cpy (mJ M c) (mJ M d) sp.toNatClampNeg dp.toNatClampNeg n.toNatClampNeg))) = N at X' step
  have hheap : ((T.setVm vm').setCell (adr G d) N).heap = H.setIfInBounds (adr G d) N := by rw [← hT]; rfl
  have oq : ∀ q : Nat, q ≠ adr G d → (H.setIfInBounds (adr G d) N)[q]? = H[q]? := fun q hq => by simp [Array.getElem?_setIfInBounds, Ne.symm hq]
  have hcn : cont G (cpL M c sp d dp n) d = .inl (G.2.1 .long, n1, .inr (.inl (va_cpy (mJ M c) (mJ M d) sp.toNatClampNeg dp.toNatClampNeg n.toNatClampNeg))) := by
    unfold cont
    rw [show mSh (cpL M c sp d dp n) d = .inl (.long, n1) from s2]
    show (Sum.inl (G.2.1 .long, n1, .inr (.inl (u1 (mJ M) d _ d))) : va_E) = _
    rw [u1_eq]
  have hH1 : Hold G (cpL M c sp d dp n) (H.setIfInBounds (adr G d) N) := hold_set hH A.2.2.2.2.2.2.2.2.2.1 q3 rfl (by simp) oq (fun c' q => ⟨rfl, rfl, rfl, u1_ne q⟩) (by rw [hcn]; show (H.setIfInBounds _ _)[_]? = some (vp_cell _ _); rw [hN]; simp [Array.getElem?_setIfInBounds, hlH])
  obtain ⟨t, a1, b1⟩ := (k1 r Me e).2 x M0 (by assumption) A f1 f2 a b cq dq (H.setIfInBounds (adr G d) N) _ ls hH1 ⟨by simp; exact hS.1, fun q g1 g2 => by
      rw [oq q (fun e => g2 (by rw [e]; exact adr_rA q3))]
      exact hS.2.1 q g1 g2, fun q hq => by
      rcases List.mem_append.mp hq with h | h
      · exact hS.2.2 q h
      · obtain ⟨z, -, hz⟩ := List.mem_map.mp h
        rw [← hz]
        exact adr_rA q3⟩ hl _ hheap X'
  exact ⟨t, step t a1, b1⟩
end CoreH
end
section
/-- the shifts of the machine -/
def xshl (a b : Int32) : Int32 := a <<< (b &&& 31)
def xshr (a b : Int32) : Int32 := a >>> (b &&& 31)
def xushr (a b : Int32) : Int32 := (a.toUInt32 >>> (b.toUInt32 &&& Int32.toUInt32 31)).toInt32
def yshl (a : Int64) (b : Int32) : Int64 := a <<< (b.toInt64 &&& 63)
def yshr (a : Int64) (b : Int32) : Int64 := a >>> (b.toInt64 &&& 63)
def yushr (a : Int64) (b : Int32) : Int64 := (a.toUInt64 >>> (b.toInt64.toUInt64 &&& Int64.toUInt64 63)).toInt64
/-- the fuel of a loop -/
def FU : Nat := 1000000
def imax (a b : Int32) : Int32 := if a < b then b else a
def imin (a b : Int32) : Int32 := if b < a then b else a
section CoreI
variable {G : Gx} {l : Launch} {cc : ByteArray} {nL : Nat} {own : String} {ret : Option FieldType} {nm : String} {fr lc : Nat} {α : Type} {Q : Cx → Mem → α → Mem → State → Prop} {M M' : Mem} {pc pc' : Nat} {lv lv' : List (Nat × Value)} {st st' : List Value}
theorem J_ishlK {k : Option (α × Mem)} {a : Int32} {b : Int32} (hdg : decode cc pc = .ok (.ishl, 1)) (k1 : J G l cc nL own ret nm fr lc Q (pc + 1) lv (.int (xshl a b) :: st) M k) : J G l cc nL own ret nm fr lc Q pc lv (.int b :: .int a :: st) M k := J_ishl hdg k1
theorem J_ishrK {k : Option (α × Mem)} {a : Int32} {b : Int32} (hdg : decode cc pc = .ok (.ishr, 1)) (k1 : J G l cc nL own ret nm fr lc Q (pc + 1) lv (.int (xshr a b) :: st) M k) : J G l cc nL own ret nm fr lc Q pc lv (.int b :: .int a :: st) M k := J_ishr hdg k1
theorem J_iushrK {k : Option (α × Mem)} {a : Int32} {b : Int32} (hdg : decode cc pc = .ok (.iushr, 1)) (k1 : J G l cc nL own ret nm fr lc Q (pc + 1) lv (.int (xushr a b) :: st) M k) : J G l cc nL own ret nm fr lc Q pc lv (.int b :: .int a :: st) M k := J_iushr hdg k1
theorem J_lshlK {k : Option (α × Mem)} {a : Int64} {b : Int32} (hdg : decode cc pc = .ok (.lshl, 1)) (k1 : J G l cc nL own ret nm fr lc Q (pc + 1) lv (.long (yshl a b) :: st) M k) : J G l cc nL own ret nm fr lc Q pc lv (.int b :: .long a :: st) M k := J_lshl hdg k1
theorem J_lshrK {k : Option (α × Mem)} {a : Int64} {b : Int32} (hdg : decode cc pc = .ok (.lshr, 1)) (k1 : J G l cc nL own ret nm fr lc Q (pc + 1) lv (.long (yshr a b) :: st) M k) : J G l cc nL own ret nm fr lc Q pc lv (.int b :: .long a :: st) M k := J_lshr hdg k1
theorem J_lushrK {k : Option (α × Mem)} {a : Int64} {b : Int32} (hdg : decode cc pc = .ok (.lushr, 1)) (k1 : J G l cc nL own ret nm fr lc Q (pc + 1) lv (.long (yushr a b) :: st) M k) : J G l cc nL own ret nm fr lc Q pc lv (.int b :: .long a :: st) M k := J_lushr hdg k1
theorem J_iincK {k : Option (α × Mem)} {i : Nat} {n : Int} {v z : Int32} (hdg : decode cc pc = .ok (.iinc i n, 3)) (q : Nat) (hq : lv[q]? = some (i, .int v)) (hz : Int32.ofInt n = z) (hn : i < nL) (hl : (i, Value.int (v + z)) :: lv.filter (fun q => !(q.1 == i) && !(q.1 + 1 == i && q.2.category == 2)) = lv') (k1 : J G l cc nL own ret nm fr lc Q (pc + 3) lv' st M k) : J G l cc nL own ret nm fr lc Q pc lv st M k := J_iinc hdg q hq (by rw [hz]) hn hl k1
theorem J_callVi {y : MethodName} {cc' : ByteArray} {maxL' fr' lc' idx b ci : Nat} {ret' : Option FieldType} {As rest : List Value} {kc : Option (Int32 × Mem)} {k : Int32 → Mem → Option (α × Mem)} (hC : Con G l y cc' maxL' ret' fr' lc' (fun v : Int32 => some (.int v)) (.ref (adr G b) :: As) M kc) (hm : MOk y cc' maxL' ret' As.length) (T : u_T) (N : Nat) (hq : vwCl[ci]? = some (y.cls, T, N)) (w2 : Cond.methodLink own idx y ∈ lwT) (w3 : Cond.instanceMethod y ∈ lwT) (w4 : Cond.selects y.cls y y ∈ lwT) (hR : fr' + 1 ≤ fr ∧ 8 + (maxL' + 11) + lc' ≤ lc) (hst : st = As.reverse ++ .ref (adr G b) :: rest) (hrm : (rest.map fun v => v.category).sum ≤ 8) (hdg : decode cc pc = .ok (.invokevirtual idx, 3)) (k1 : ∀ r M1, J G l cc nL own ret nm fr lc Q (pc + 3) lv (.int r :: rest) M1 (k r M1)) : J G l cc nL own ret nm fr lc Q pc lv st M (cV M ci b kc k) := J_callV hC hm T N hq w2 w3 w4 hR hst hrm hdg k1
theorem J_callSi {y : MethodName} {cc' : ByteArray} {maxL' fr' lc' idx : Nat} {ret' : Option FieldType} {As rest : List Value} {kc : Option (Int32 × Mem)} {k : Int32 → Mem → Option (α × Mem)} (hC : Con G l y cc' maxL' ret' fr' lc' (fun v : Int32 => some (.int v)) As M kc) (hm : MOk y cc' maxL' ret' As.length) (w2 : Cond.methodLink own idx y ∈ lwT) (w3 : Cond.static y ∈ lwT) (hR : fr' + 1 ≤ fr ∧ 8 + (maxL' + 11) + lc' ≤ lc) (hst : st = As.reverse ++ rest) (hrm : (rest.map fun v => v.category).sum ≤ 8) (hdg : decode cc pc = .ok (.invokestatic idx, 3)) (k1 : ∀ r M1, J G l cc nL own ret nm fr lc Q (pc + 3) lv (.int r :: rest) M1 (k r M1)) : J G l cc nL own ret nm fr lc Q pc lv st M (bd kc k) := J_callS hC hm w2 w3 hR hst hrm hdg k1
theorem J_callSNi {host : String} {y : MethodName} {cc' : ByteArray} {maxL' fr' lc' idx : Nat} {ret' : Option FieldType} {As rest : List Value} {kc : Option (Int32 × Mem)} {k : Int32 → Mem → Option (α × Mem)} (hC : Con G l y cc' maxL' ret' fr' lc' (fun v : Int32 => some (.int v)) As M kc) (hm : MOk y cc' maxL' ret' As.length) (w2 : (own, idx, y, host) ∈ lwN) (w3 : Cond.static y ∈ lwT) (hR : fr' + 1 ≤ fr ∧ 8 + (maxL' + 11) + lc' ≤ lc) (hst : st = As.reverse ++ rest) (hrm : (rest.map fun v => v.category).sum ≤ 8) (hdg : decode cc pc = .ok (.invokestatic idx, 3)) (k1 : ∀ r M1, J G l cc nL own ret nm fr lc Q (pc + 3) lv (.int r :: rest) M1 (k r M1)) : J G l cc nL own ret nm fr lc Q pc lv st M (bd kc k) := J_callSN hC hm w2 w3 hR hst hrm hdg k1
theorem J_callVl {y : MethodName} {cc' : ByteArray} {maxL' fr' lc' idx b ci : Nat} {ret' : Option FieldType} {As rest : List Value} {kc : Option (Int64 × Mem)} {k : Int64 → Mem → Option (α × Mem)} (hC : Con G l y cc' maxL' ret' fr' lc' (fun v : Int64 => some (.long v)) (.ref (adr G b) :: As) M kc) (hm : MOk y cc' maxL' ret' As.length) (T : u_T) (N : Nat) (hq : vwCl[ci]? = some (y.cls, T, N)) (w2 : Cond.methodLink own idx y ∈ lwT) (w3 : Cond.instanceMethod y ∈ lwT) (w4 : Cond.selects y.cls y y ∈ lwT) (hR : fr' + 1 ≤ fr ∧ 8 + (maxL' + 11) + lc' ≤ lc) (hst : st = As.reverse ++ .ref (adr G b) :: rest) (hrm : (rest.map fun v => v.category).sum ≤ 8) (hdg : decode cc pc = .ok (.invokevirtual idx, 3)) (k1 : ∀ r M1, J G l cc nL own ret nm fr lc Q (pc + 3) lv (.long r :: rest) M1 (k r M1)) : J G l cc nL own ret nm fr lc Q pc lv st M (cV M ci b kc k) := J_callV hC hm T N hq w2 w3 w4 hR hst hrm hdg k1
theorem J_callSl {y : MethodName} {cc' : ByteArray} {maxL' fr' lc' idx : Nat} {ret' : Option FieldType} {As rest : List Value} {kc : Option (Int64 × Mem)} {k : Int64 → Mem → Option (α × Mem)} (hC : Con G l y cc' maxL' ret' fr' lc' (fun v : Int64 => some (.long v)) As M kc) (hm : MOk y cc' maxL' ret' As.length) (w2 : Cond.methodLink own idx y ∈ lwT) (w3 : Cond.static y ∈ lwT) (hR : fr' + 1 ≤ fr ∧ 8 + (maxL' + 11) + lc' ≤ lc) (hst : st = As.reverse ++ rest) (hrm : (rest.map fun v => v.category).sum ≤ 8) (hdg : decode cc pc = .ok (.invokestatic idx, 3)) (k1 : ∀ r M1, J G l cc nL own ret nm fr lc Q (pc + 3) lv (.long r :: rest) M1 (k r M1)) : J G l cc nL own ret nm fr lc Q pc lv st M (bd kc k) := J_callS hC hm w2 w3 hR hst hrm hdg k1
theorem J_callSNl {host : String} {y : MethodName} {cc' : ByteArray} {maxL' fr' lc' idx : Nat} {ret' : Option FieldType} {As rest : List Value} {kc : Option (Int64 × Mem)} {k : Int64 → Mem → Option (α × Mem)} (hC : Con G l y cc' maxL' ret' fr' lc' (fun v : Int64 => some (.long v)) As M kc) (hm : MOk y cc' maxL' ret' As.length) (w2 : (own, idx, y, host) ∈ lwN) (w3 : Cond.static y ∈ lwT) (hR : fr' + 1 ≤ fr ∧ 8 + (maxL' + 11) + lc' ≤ lc) (hst : st = As.reverse ++ rest) (hrm : (rest.map fun v => v.category).sum ≤ 8) (hdg : decode cc pc = .ok (.invokestatic idx, 3)) (k1 : ∀ r M1, J G l cc nL own ret nm fr lc Q (pc + 3) lv (.long r :: rest) M1 (k r M1)) : J G l cc nL own ret nm fr lc Q pc lv st M (bd kc k) := J_callSN hC hm w2 w3 hR hst hrm hdg k1
theorem J_callVr {y : MethodName} {cc' : ByteArray} {maxL' fr' lc' idx b ci : Nat} {ret' : Option FieldType} {As rest : List Value} {kc : Option (Nat × Mem)} {k : Nat → Mem → Option (α × Mem)} (hC : Con G l y cc' maxL' ret' fr' lc' (fun c : Nat => some (.ref (adr G c))) (.ref (adr G b) :: As) M kc) (hm : MOk y cc' maxL' ret' As.length) (T : u_T) (N : Nat) (hq : vwCl[ci]? = some (y.cls, T, N)) (w2 : Cond.methodLink own idx y ∈ lwT) (w3 : Cond.instanceMethod y ∈ lwT) (w4 : Cond.selects y.cls y y ∈ lwT) (hR : fr' + 1 ≤ fr ∧ 8 + (maxL' + 11) + lc' ≤ lc) (hst : st = As.reverse ++ .ref (adr G b) :: rest) (hrm : (rest.map fun v => v.category).sum ≤ 8) (hdg : decode cc pc = .ok (.invokevirtual idx, 3)) (k1 : ∀ r M1, J G l cc nL own ret nm fr lc Q (pc + 3) lv (.ref (adr G r) :: rest) M1 (k r M1)) : J G l cc nL own ret nm fr lc Q pc lv st M (cV M ci b kc k) := J_callV hC hm T N hq w2 w3 w4 hR hst hrm hdg k1
theorem J_callSr {y : MethodName} {cc' : ByteArray} {maxL' fr' lc' idx : Nat} {ret' : Option FieldType} {As rest : List Value} {kc : Option (Nat × Mem)} {k : Nat → Mem → Option (α × Mem)} (hC : Con G l y cc' maxL' ret' fr' lc' (fun c : Nat => some (.ref (adr G c))) As M kc) (hm : MOk y cc' maxL' ret' As.length) (w2 : Cond.methodLink own idx y ∈ lwT) (w3 : Cond.static y ∈ lwT) (hR : fr' + 1 ≤ fr ∧ 8 + (maxL' + 11) + lc' ≤ lc) (hst : st = As.reverse ++ rest) (hrm : (rest.map fun v => v.category).sum ≤ 8) (hdg : decode cc pc = .ok (.invokestatic idx, 3)) (k1 : ∀ r M1, J G l cc nL own ret nm fr lc Q (pc + 3) lv (.ref (adr G r) :: rest) M1 (k r M1)) : J G l cc nL own ret nm fr lc Q pc lv st M (bd kc k) := J_callS hC hm w2 w3 hR hst hrm hdg k1
theorem J_callSNr {host : String} {y : MethodName} {cc' : ByteArray} {maxL' fr' lc' idx : Nat} {ret' : Option FieldType} {As rest : List Value} {kc : Option (Nat × Mem)} {k : Nat → Mem → Option (α × Mem)} (hC : Con G l y cc' maxL' ret' fr' lc' (fun c : Nat => some (.ref (adr G c))) As M kc) (hm : MOk y cc' maxL' ret' As.length) (w2 : (own, idx, y, host) ∈ lwN) (w3 : Cond.static y ∈ lwT) (hR : fr' + 1 ≤ fr ∧ 8 + (maxL' + 11) + lc' ≤ lc) (hst : st = As.reverse ++ rest) (hrm : (rest.map fun v => v.category).sum ≤ 8) (hdg : decode cc pc = .ok (.invokestatic idx, 3)) (k1 : ∀ r M1, J G l cc nL own ret nm fr lc Q (pc + 3) lv (.ref (adr G r) :: rest) M1 (k r M1)) : J G l cc nL own ret nm fr lc Q pc lv st M (bd kc k) := J_callSN hC hm w2 w3 hR hst hrm hdg k1
theorem J_callVv {y : MethodName} {cc' : ByteArray} {maxL' fr' lc' idx b ci : Nat} {ret' : Option FieldType} {As rest : List Value} {kc : Option (Unit × Mem)} {k : Unit → Mem → Option (α × Mem)} (hC : Con G l y cc' maxL' ret' fr' lc' (fun _ : Unit => none) (.ref (adr G b) :: As) M kc) (hm : MOk y cc' maxL' ret' As.length) (T : u_T) (N : Nat) (hq : vwCl[ci]? = some (y.cls, T, N)) (w2 : Cond.methodLink own idx y ∈ lwT) (w3 : Cond.instanceMethod y ∈ lwT) (w4 : Cond.selects y.cls y y ∈ lwT) (hR : fr' + 1 ≤ fr ∧ 8 + (maxL' + 11) + lc' ≤ lc) (hst : st = As.reverse ++ .ref (adr G b) :: rest) (hrm : (rest.map fun v => v.category).sum ≤ 8) (hdg : decode cc pc = .ok (.invokevirtual idx, 3)) (k1 : ∀ r M1, J G l cc nL own ret nm fr lc Q (pc + 3) lv rest M1 (k r M1)) : J G l cc nL own ret nm fr lc Q pc lv st M (cV M ci b kc k) := J_callV hC hm T N hq w2 w3 w4 hR hst hrm hdg k1
theorem J_callSv {y : MethodName} {cc' : ByteArray} {maxL' fr' lc' idx : Nat} {ret' : Option FieldType} {As rest : List Value} {kc : Option (Unit × Mem)} {k : Unit → Mem → Option (α × Mem)} (hC : Con G l y cc' maxL' ret' fr' lc' (fun _ : Unit => none) As M kc) (hm : MOk y cc' maxL' ret' As.length) (w2 : Cond.methodLink own idx y ∈ lwT) (w3 : Cond.static y ∈ lwT) (hR : fr' + 1 ≤ fr ∧ 8 + (maxL' + 11) + lc' ≤ lc) (hst : st = As.reverse ++ rest) (hrm : (rest.map fun v => v.category).sum ≤ 8) (hdg : decode cc pc = .ok (.invokestatic idx, 3)) (k1 : ∀ r M1, J G l cc nL own ret nm fr lc Q (pc + 3) lv rest M1 (k r M1)) : J G l cc nL own ret nm fr lc Q pc lv st M (bd kc k) := J_callS hC hm w2 w3 hR hst hrm hdg k1
theorem J_callSNv {host : String} {y : MethodName} {cc' : ByteArray} {maxL' fr' lc' idx : Nat} {ret' : Option FieldType} {As rest : List Value} {kc : Option (Unit × Mem)} {k : Unit → Mem → Option (α × Mem)} (hC : Con G l y cc' maxL' ret' fr' lc' (fun _ : Unit => none) As M kc) (hm : MOk y cc' maxL' ret' As.length) (w2 : (own, idx, y, host) ∈ lwN) (w3 : Cond.static y ∈ lwT) (hR : fr' + 1 ≤ fr ∧ 8 + (maxL' + 11) + lc' ≤ lc) (hst : st = As.reverse ++ rest) (hrm : (rest.map fun v => v.category).sum ≤ 8) (hdg : decode cc pc = .ok (.invokestatic idx, 3)) (k1 : ∀ r M1, J G l cc nL own ret nm fr lc Q (pc + 3) lv rest M1 (k r M1)) : J G l cc nL own ret nm fr lc Q pc lv st M (bd kc k) := J_callSN hC hm w2 w3 hR hst hrm hdg k1
theorem J_mmax {k : Option (α × Mem)} {idx : Nat} {a b : Int32} (w1 : Cond.methodLink own idx Lib.Math.max.name ∈ lwT) (w2 : Cond.static Lib.Math.max.name ∈ lwT) (w3 : Cond.initialized "java/lang/Math" ∈ lwT) (w4 : Cond.code Lib.Math.max.name Lib.Math.max.code 2 (some .int) ∈ lwT) (hR : 1 ≤ fr ∧ (st.map fun v => v.category).sum + 13 ≤ lc) (hdg : decode cc pc = .ok (.invokestatic idx, 3)) (k1 : J G l cc nL own ret nm fr lc Q (pc + 3) lv (.int (imax a b) :: st) M k) : J G l cc nL own ret nm fr lc Q pc lv (.int b :: .int a :: st) M k := by
  intro r Me e
  obtain ⟨⟨g1, g2⟩, go⟩ := k1 r Me e
  refine ⟨⟨g1, g2⟩, fun x M0 e1 A f1 f2 a b c d H locs ls hH hS hl => ?_⟩
  have hts := A.2.2.2.2.1
  exact va_mmax A.1 A.2.1 (A.2.2.1.trans hl.1.symm) (own := own) A.2.2.2.1 (hts _ w1) (hts _ w2) (hts _ w3) (hts _ w4) (Nat.le_trans hR.1 f1) (Nat.le_trans hR.2 f2) (by omega) (by omega) hdg (go x M0 e1 A f1 f2 a b c d H locs ls hH hS hl)
theorem J_mmin {k : Option (α × Mem)} {idx : Nat} {a b : Int32} (w1 : Cond.methodLink own idx Lib.Math.min.name ∈ lwT) (w2 : Cond.static Lib.Math.min.name ∈ lwT) (w3 : Cond.initialized "java/lang/Math" ∈ lwT) (w4 : Cond.code Lib.Math.min.name Lib.Math.min.code 2 (some .int) ∈ lwT) (hR : 1 ≤ fr ∧ (st.map fun v => v.category).sum + 13 ≤ lc) (hdg : decode cc pc = .ok (.invokestatic idx, 3)) (k1 : J G l cc nL own ret nm fr lc Q (pc + 3) lv (.int (imin a b) :: st) M k) : J G l cc nL own ret nm fr lc Q pc lv (.int b :: .int a :: st) M k := by
  intro r Me e
  obtain ⟨⟨g1, g2⟩, go⟩ := k1 r Me e
  refine ⟨⟨g1, g2⟩, fun x M0 e1 A f1 f2 a b c d H locs ls hH hS hl => ?_⟩
  have hts := A.2.2.2.2.1
  exact va_mmin A.1 A.2.1 (A.2.2.1.trans hl.1.symm) (own := own) A.2.2.2.1 (hts _ w1) (hts _ w2) (hts _ w3) (hts _ w4) (Nat.le_trans hR.1 f1) (Nat.le_trans hR.2 f2) (by omega) (by omega) hdg (go x M0 e1 A f1 f2 a b c d H locs ls hH hS hl)
end CoreI
end
section
-- MAKING: a new cell stands at the end
def nwM (M : Mem) (sh : Shp) (n : Nat) : Mem := (M.1 + 1, M.2.1 + n, (fun c => if c = M.1 then sh else mSh M c), u1 (mR M) M.1 (fun _ => none), u1 (mI M) M.1 (fun _ => 0), u1 (mJ M) M.1 (fun _ => 0))
def nwO {β : Type} (M : Mem) (ci n : Nat) (k : Nat → Mem → Option β) : Option β := k M.1 (nwM M (.inr ci) n)
def nwA {β : Type} (M : Mem) (ty : FieldType) (n : Int32) (k : Nat → Mem → Option β) : Option β := if ¬ n < 0 ∧ n.toNatClampNeg ≤ 60000000 then k M.1 (nwM M (.inl (ty, n.toNatClampNeg)) n.toNatClampNeg) else none
def wR {β : Type} (M : Mem) (ci c : Nat) (i : Int32) (x : Nat) (k : Mem → Option β) : Option β := if (okA M (.object "ChainBooks$Head") c i = true ∧ nS ≤ c) ∧ okO M ci x = true then k (stR M c i.toNatClampNeg (some x)) else none
/-- new int[n][k]: the outer row at M.1, the inner ones behind it -/
def nwGM (M : Mem) (n k : Nat) : Mem := (M.1 + 1 + n, M.2.1 + n + n * k, (fun c => if c = M.1 then .inl (.array .int, n) else if M.1 < c ∧ c < M.1 + 1 + n then .inl (.int, k) else mSh M c), u1 (mR M) M.1 (fun i => if i < n then some (M.1 + 1 + i) else none), (fun c => if M.1 < c ∧ c < M.1 + 1 + n then (fun _ => 0) else mI M c), mJ M)
def nwG {β : Type} (M : Mem) (n k : Int32) (kk : Nat → Mem → Option β) : Option β := if (¬ n < 0 ∧ ¬ k < 0) ∧ n.toNatClampNeg ≤ 1000000 ∧ k.toNatClampNeg ≤ 1000000 then kk M.1 (nwGM M n.toNatClampNeg k.toNatClampNeg) else none
def zval : FieldType → Value
  | .long => .long 0
  | .array _ => .null
  | .object _ => .null
  | _ => .int 0
theorem fvals_z {G : Gx} {M : Mem} {c : Nat} (h2 : mR M c = fun _ => none) (h3 : mI M c = fun _ => 0) (h4 : mJ M c = fun _ => 0) : ∀ (l : List FieldType) (b : Nat), fvals G M c b l = l.map zval
  | [], _ => rfl
  | ty :: r, b => by
    unfold fvals
    rw [fvals_z h2 h3 h4 r (b + 1), List.map_cons]
    congr 1
    unfold fval
    rw [h2, h3, h4]
    cases ty <;> rfl
/-- a class's objects as they are made -/
def NwOk (ci n : Nat) (C : String) : Prop := ∃ (T : u_T) (ty : Nat → FieldType), vwCl[ci]? = some (C, T, n) ∧ (∀ w ∈ u_ws C T n, w ∈ lwT) ∧ (∀ k, k < n → parseFieldDescriptor (T k).2.2.1 = some (ty k)) ∧ (∀ j, j < n → defaultValue (ty j) = vp_V ((cfT ci).map zval) j) ∧ Cond.instantiable C n ∈ lwT ∧ Cond.initialized C ∈ lwT
theorem hold_push {G : Gx} {M M' : Mem} {H H1 : Heap} (hH : Hold G M H) (e : M'.1 = M.1 + 1) (z : H1.size = H.size + 1) (oq : ∀ q, q < H.size → H1[q]? = H[q]?) (ho : ∀ c', c' ≠ M.1 → mSh M' c' = mSh M c' ∧ mR M' c' = mR M c' ∧ mI M' c' = mI M c' ∧ mJ M' c' = mJ M c') (hc : va_at G.1 vwCl (adr G M.1, cont G M' M.1) H1) : Hold G M' H1 := by
  refine ⟨by rw [e]; exact Nat.le_trans hH.1 (Nat.le_succ _), by rw [z, e, hH.2.1]; have := hH.1; omega, fun c' hn' hc' => ?_, fun c' hc' => ?_⟩
  · by_cases q : c' = M.1
    · subst q; exact hc
    · rw [cont_congr (ho c' q).1 (ho c' q).2.1 (ho c' q).2.2.1 (ho c' q).2.2.2]
      have h := hH.2.2.1 c' hn' (by rw [e] at hc'; omega)
      exact h.kept (oq _ h.lt)
  · have q : c' ≠ M.1 := by have := hH.1; omega
    obtain ⟨n, cell, g1, g2, g3, g4, g5⟩ := hH.2.2.2 c' hc'
    exact ⟨n, cell, by rw [(ho c' q).1]; exact g1, by rw [oq _ (Array.getElem?_eq_some_iff.mp g2).1]; exact g2, g3, g4, fun j hj => by rw [(ho c' q).2.2.1]; exact g5 j hj⟩
theorem adr_top {G : Gx} {M : Mem} {H : Heap} (hH : Hold G M H) : adr G M.1 = H.size := by
  unfold adr
  rw [if_neg (Nat.not_lt.mpr hH.1), hH.2.1]
section CoreK
variable {G : Gx} {l : Launch} {cc : ByteArray} {nL : Nat} {own : String} {ret : Option FieldType} {nm : String} {fr lc : Nat} {α : Type} {Q : Cx → Mem → α → Mem → State → Prop} {M M' : Mem} {pc pc' : Nat} {lv lv' : List (Nat × Value)} {st st' : List Value}
theorem vaS_push {H0 H H1 : Heap} {locs : List Loc} (hS : va_S (rA G) H0 H locs) (z : H.size ≤ H1.size) (o : ∀ q, q < H.size → H1[q]? = H[q]?) : va_S (rA G) H0 H1 locs := ⟨Nat.le_trans hS.1 z, fun q h1 h2 => (o q (Nat.lt_of_lt_of_le h1 hS.1)).trans (hS.2.1 q h1 h2), hS.2.2⟩
/-- a step that makes cells -/
theorem J_stepN {k : Option (α × Mem)} (g1 : M.1 ≤ M'.1) (g2 : M.2.1 ≤ M'.2.1) (h : ∀ (x : Cx) (A : Act G x cc nL own ret nm) (H : Heap) (locs : List Loc) (ls : Array Slot) (cells slots : Nat) (Q' : State → Prop), cells + (M'.1 - M.1) ≤ (xR x).cells → slots + (M'.2.1 - M.2.1) ≤ (xR x).slots → Hold G M H → va_S (rA G) (xs x).heap H locs → lv_has ls nL lv → (∀ (H1 : Heap), Hold G M' H1 → va_S (rA G) (xs x).heap H1 locs → WW x H1 locs (cells + (M'.1 - M.1)) (slots + (M'.2.1 - M.2.1)) Q' (F0 (xm x) pc' ls st')) → WW x H locs cells slots Q' (F0 (xm x) pc ls st))
    (k1 : J G l cc nL own ret nm fr lc Q pc' lv st' M' k) : J G l cc nL own ret nm fr lc Q pc lv st M k := by
  intro r Me e
  obtain ⟨⟨q1, q2⟩, go⟩ := k1 r Me e
  refine ⟨⟨Nat.le_trans g1 q1, Nat.le_trans g2 q2⟩, fun x M0 e1 A f1 f2 a b c d H locs ls hH hS hl => ?_⟩
  refine h x A H locs ls _ _ _ (by omega) (by omega) hH hS hl (fun H1 hH1 hS1 => ?_)
  rw [show M.1 - M0.1 + (M'.1 - M.1) = M'.1 - M0.1 by omega, show M.2.1 - M0.2.1 + (M'.2.1 - M.2.1) = M'.2.1 - M0.2.1 by omega]
  exact go x M0 e1 A f1 f2 (by omega) (by omega) c d H1 locs ls hH1 hS1 hl
theorem nwM_old {M : Mem} {sh : Shp} {n c : Nat} (h : c ≠ M.1) : mSh (nwM M sh n) c = mSh M c ∧ mR (nwM M sh n) c = mR M c ∧ mI (nwM M sh n) c = mI M c ∧ mJ (nwM M sh n) c = mJ M c := ⟨if_neg h, u1_ne h, u1_ne h, u1_ne h⟩
theorem J_new {k : Nat → Mem → Option (α × Mem)} {ci n idx : Nat} {C : String} (F : NwOk ci n C) (hw : Cond.classLink own idx C ∈ lwT) (hdg : decode cc pc = .ok (.new idx, 3)) (k1 : J G l cc nL own ret nm fr lc Q (pc + 3) lv (.ref (adr G M.1) :: st) (nwM M (.inr ci) n) (k M.1 (nwM M (.inr ci) n))) : J G l cc nL own ret nm fr lc Q pc lv st M (nwO M ci n k) := by
  unfold nwO
  obtain ⟨T, ty, h1, h2, h3, h4, h5, h6⟩ := F
  refine J_stepN (M' := nwM M (.inr ci) n) (Nat.le_succ _) (Nat.le_add_right _ _) (fun x A H locs ls cells slots Q' c1 c2 hH hS hl w => ?_) k1
  have hts := A.2.2.2.2.1
  have hKn := A.2.2.2.2.2.2.2.2.1.1 ci _ h1
  have e1 : (nwM M (.inr ci) n).1 - M.1 = 1 := by show M.1 + 1 - M.1 = 1; omega
  have e2 : (nwM M (.inr ci) n).2.1 - M.2.1 = n := by show M.2.1 + n - M.2.1 = n; omega
  rw [e1, e2] at w
  rw [e1] at c1
  rw [e2] at c2
  refine W.newcK A.1 A.2.1 (own := own) A.2.2.2.1 (hts _ hw) (hts _ h5) (hts _ h6) rfl hdg c1 c2 hKn.2.1 (adr_top hH).symm fun H1 kC hkC i1 z1 o1 => ?_
  rw [adr_top hH] at z1 o1
  refine w H1 (hold_push hH rfl z1 o1 (fun c' q => nwM_old q) ?_) (vaS_push hS (by omega) o1)
  have hcn : cont G (nwM M (.inr ci) n) M.1 = .inr (ci, (cfT ci).map zval) := by
    unfold cont
    rw [show mSh (nwM M (.inr ci) n) M.1 = .inr ci from if_pos rfl]
    show (Sum.inr (ci, fvals G (nwM M (.inr ci) n) M.1 0 (cfT ci)) : va_E) = _
    rw [fvals_z u1_eq u1_eq u1_eq]
  rw [hcn]
  exact ⟨_, h1, (u_born ty hts h2 hKn hkC i1 h3).to h4⟩
theorem J_newa {ty : FieldType} {atype : ArrayType} {t0 : Nat} (hty : newarray.typeOf atype = ty) (ht : ∀ D : va_G, ∀ f : FieldType → ClassId, ∀ a : Nat, ∀ b : Nat → Nat, (tysG (D, f, a, b))[t0]? = some (f ty, ty)) (hR : ∀ (U : State) (c : ClassId), va_RA U c ty → U.vm.findClass ("[" ++ ty.toString) = some c) (hz : ∀ (G : Gx) (M : Mem) (c n : Nat), mI M c = (fun _ => 0) → mJ M c = (fun _ => 0) → vp_cell (G.2.1 ty) (n, rowOf G M c ty) = arrV (G.2.1 ty) n (fun _ => defaultValue ty)) (hcb : componentBytes ty ≤ 8)
    {k : Nat → Mem → Option (α × Mem)} {n : Int32} (hw : Cond.arrayClass ty ∈ lwT) (hdg : decode cc pc = .ok (.newarray atype, 2)) (k1 : J G l cc nL own ret nm fr lc Q (pc + 2) lv (.ref (adr G M.1) :: st) (nwM M (.inl (ty, n.toNatClampNeg)) n.toNatClampNeg) (k M.1 (nwM M (.inl (ty, n.toNatClampNeg)) n.toNatClampNeg))) : J G l cc nL own ret nm fr lc Q pc lv (.int n :: st) M (nwA M ty n k) := by
  subst hty
  unfold nwA
  refine J_ite (fun h => ?_) (fun _ => J_none)
  refine J_stepN (M' := nwM M (.inl (newarray.typeOf atype, n.toNatClampNeg)) n.toNatClampNeg) (Nat.le_succ _) (Nat.le_add_right _ _) (fun x A H locs ls cells slots Q' c1 c2 hH hS hl w => ?_) k1
  have hts := A.2.2.2.2.1
  have hK := A.2.2.2.2.2.2.2.2.1
  have e1 : (nwM M (.inl (newarray.typeOf atype, n.toNatClampNeg)) n.toNatClampNeg).1 - M.1 = 1 := by show M.1 + 1 - M.1 = 1; omega
  have e2 : (nwM M (.inl (newarray.typeOf atype, n.toNatClampNeg)) n.toNatClampNeg).2.1 - M.2.1 = n.toNatClampNeg := by show M.2.1 + _ - M.2.1 = _; omega
  rw [e1, e2] at w
  rw [e1] at c1
  rw [e2] at c2
  refine va_newaK A.1 A.2.1 (hts _ hw) rfl hdg rfl h.1 rfl (Nat.le_trans (Nat.mul_le_mul h.2 hcb) (by decide)) c1 c2 (adr_top hH).symm fun H1 cA i1 z1 o1 hAr hNm => ?_
  rw [adr_top hH] at z1 o1
  have hcA : cA = G.2.1 (newarray.typeOf atype) := Option.some.inj (hNm.symm.trans (hR _ _ (hK.2 t0 _ (ht _ _ _ _)).2))
  subst hcA
  refine w H1 (hold_push hH rfl z1 o1 (fun c' q => nwM_old q) ?_) (vaS_push hS (by omega) o1)
  have hcn : cont G (nwM M (.inl (newarray.typeOf atype, n.toNatClampNeg)) n.toNatClampNeg) M.1 = .inl (G.2.1 (newarray.typeOf atype), n.toNatClampNeg, rowOf G (nwM M (.inl (newarray.typeOf atype, n.toNatClampNeg)) n.toNatClampNeg) M.1 (newarray.typeOf atype)) := by
    unfold cont
    rw [show mSh (nwM M (.inl (newarray.typeOf atype, n.toNatClampNeg)) n.toNatClampNeg) M.1 = .inl (newarray.typeOf atype, n.toNatClampNeg) from if_pos rfl]
  rw [hcn]
  show H1[adr G M.1]? = some (vp_cell _ _)
  rw [hz G _ _ _ u1_eq u1_eq]
  exact i1
theorem J_anew {k : Nat → Mem → Option (α × Mem)} {n : Int32} {idx : Nat} (hw : Cond.classLink own idx "ChainBooks$Head" ∈ lwT) (hdg : decode cc pc = .ok (.anewarray idx, 3)) (k1 : J G l cc nL own ret nm fr lc Q (pc + 3) lv (.ref (adr G M.1) :: st) (nwM M (.inl (.object "ChainBooks$Head", n.toNatClampNeg)) n.toNatClampNeg) (k M.1 (nwM M (.inl (.object "ChainBooks$Head", n.toNatClampNeg)) n.toNatClampNeg))) : J G l cc nL own ret nm fr lc Q pc lv (.int n :: st) M (nwA M (.object "ChainBooks$Head") n k) := by
  unfold nwA
  refine J_ite (fun h => ?_) (fun _ => J_none)
  refine J_stepN (M' := nwM M (.inl (.object "ChainBooks$Head", n.toNatClampNeg)) n.toNatClampNeg) (Nat.le_succ _) (Nat.le_add_right _ _) (fun x A H locs ls cells slots Q' c1 c2 hH hS hl w => ?_) k1
  have hts := A.2.2.2.2.1
  have hK := A.2.2.2.2.2.2.2.2.1
  have e1 : (nwM M (.inl (.object "ChainBooks$Head", n.toNatClampNeg)) n.toNatClampNeg).1 - M.1 = 1 := by show M.1 + 1 - M.1 = 1; omega
  have e2 : (nwM M (.inl (.object "ChainBooks$Head", n.toNatClampNeg)) n.toNatClampNeg).2.1 - M.2.1 = n.toNatClampNeg := by show M.2.1 + _ - M.2.1 = _; omega
  rw [e1, e2] at w
  rw [e1] at c1
  rw [e2] at c2
  refine W.anew A.1 A.2.1 (own := own) A.2.2.2.1 (hts _ hw) (va_AO.use A.2.2.2.2.2.2.2.2.2.2.2.2.2.1) rfl hdg rfl h.1 (by have := h.2; omega) c1 c2 fun cA kA comp f1 f2 f3 f4 => ?_
  generalize hH1 : H.push ({ cls := cA, slots := Array.replicate n.toNatClampNeg .null, vm := .none } : Cell) = H1
  have z1 : H1.size = H.size + 1 := by rw [← hH1, Array.size_push]
  have i1 : H1[H.size]? = some (arrV cA n.toNatClampNeg (fun _ => .null)) := by rw [← hH1, Array.getElem?_push_size, ← arrV_new]
  have o1 : ∀ q : Nat, q < H.size → H1[q]? = H[q]? := fun q hq => by rw [← hH1, Array.getElem?_push, if_neg (Nat.ne_of_lt hq)]
  obtain ⟨kA', comp', -, -, -, f9⟩ := (hK.2 5 _ rfl).2
  have hcA : cA = G.2.1 (.object "ChainBooks$Head") := Option.some.inj (f1.symm.trans f9)
  subst hcA
  have q9 := w H1 (hold_push hH rfl z1 o1 (fun c' q => nwM_old q) ?_) (vaS_push hS (by omega) o1)
  · rw [adr_top hH] at q9
    exact q9
  have hcn : cont G (nwM M (.inl (.object "ChainBooks$Head", n.toNatClampNeg)) n.toNatClampNeg) M.1 = .inl (G.2.1 (.object "ChainBooks$Head"), n.toNatClampNeg, .inr (.inr (.inr (.inr (fun _ => none))))) := by
    unfold cont
    rw [show mSh (nwM M (.inl (.object "ChainBooks$Head", n.toNatClampNeg)) n.toNatClampNeg) M.1 = .inl (.object "ChainBooks$Head", n.toNatClampNeg) from if_pos rfl]
    show (Sum.inl (G.2.1 (.object "ChainBooks$Head"), n.toNatClampNeg, .inr (.inr (.inr (.inr (fun i => (u1 (mR M) M.1 (fun _ => none) M.1 i).map (adr G)))))) : va_E) = _
    rw [u1_eq]
    rfl
  rw [hcn, adr_top hH]
  show H1[H.size]? = some (vp_cell _ _)
  rw [i1, vp_cell_q]
  rfl
end CoreK
end
section
section CoreL
variable {G : Gx} {l : Launch} {cc : ByteArray} {nL : Nat} {own : String} {ret : Option FieldType} {nm : String} {fr lc : Nat} {α : Type} {Q : Cx → Mem → α → Mem → State → Prop} {M M' : Mem} {pc pc' : Nat} {lv lv' : List (Nat × Value)} {st st' : List Value}
theorem J_putRF {k : Mem → Option (α × Mem)} {ci f idx c v : Nat} {ty : FieldType} {n d : String} (F : FdOk ci f ty true own n d) (hw : Cond.fieldLink own idx own n d ∈ lwT) (hrk : (∃ t, ty = .array t) ∨ ∃ t, ty = .object t) (hdg : decode cc pc = .ok (.putfield idx, 3)) (k1 : J G l cc nL own ret "<init>" fr lc Q (pc + 3) lv st (stR M c f (some v)) (k (stR M c f (some v)))) : J G l cc nL own ret "<init>" fr lc Q pc lv (.ref (adr G v) :: .ref (adr G c) :: st) M (pR M ci f c v k) := by
  unfold pR
  refine J_ite (fun h => ?_) (fun _ => J_none)
  obtain ⟨hc, hns, e⟩ := okO_spec h
  refine J_stepS (M' := stR M c f (some v)) rfl rfl (fun x A H locs ls cells slots Q' hH hS _ w => ?_) k1
  obtain ⟨C, T, N, ty0, h1, h2, h3, h4, h5, h6, h7, h8⟩ := F
  have hK := A.2.2.2.2.2.2.2.2.1
  have hts := A.2.2.2.2.1
  have hap := va_apart (own := own) hts h2 ty0 h6 h7 hK h1
  obtain ⟨r, g1, cell, q1, q2, q3, q4⟩ := hold_obj hH hc e
  have hr : r = (C, T, N) := Option.some.inj (g1.symm.trans h1)
  subst hr
  obtain ⟨hSl, hfc, kC, hkC, hkind⟩ := hK.1 ci _ h1
  obtain ⟨cf, kf, fi, fd, hi, hsl⟩ := hSl f h3
  have hi : (xs x).fieldFound? (T f).1 (T f).2.1 (T f).2.2.1 = some (cf, kf, fi, fd) := hi
  have hlay := hts _ (h2 _ (u_in_lay h3))
  unfold u_lay at hlay
  rw [if_pos (by rw [h5])] at hlay
  have hst := (u_facts hfc hkC (u_lays hts h2 h3) hi).1
  have hcf : (xm x).cls = cf := by
    obtain ⟨_, _, c', _, _, _, -, -, hf', -, -, -, hown2, -⟩ := Cond.laysFinal_spec hlay
    have e1 : c' = cf := by have := hi.symm.trans hf'; simp at this; exact this.1.symm
    rw [h5] at hown2
    rw [← e1]; exact Option.some.inj (A.2.2.2.1.symm.trans hown2)
  have hn : narrow ty (.ref (adr G v)) = .ref (adr G v) := by rcases hrk with ⟨t, rfl⟩ | ⟨t, rfl⟩ <;> rfl
  have hfit : fits ty (.ref (adr G v)) = true := by rcases hrk with ⟨t, rfl⟩ | ⟨t, rfl⟩ <;> rfl
  have h9 := u_fits hfc hkC hkind (Or.inr hlay) hi (by rw [h5]; exact h8) hn hfit
  refine W.putFinK A.1 A.2.1 (own := own) (ref := own) (name := n) (desc := d) (index := idx) A.2.2.2.1 (hts _ hw) (by rw [h5] at hi; exact hi) hst hcf A.2.2.2.2.2.2.2.1 (by rw [q2]; exact h9) q1 q3 (by rw [hsl]; exact k2_hasslot (q4 f h3)) rfl rfl hdg fun H1 i1 i2 i3 => ?_
  rw [hsl] at i1 ⊢
  refine w H1 _ (hold_set hH A.2.2.2.2.2.2.2.2.2.1 hns rfl i2 i3 (fun c' q => ⟨rfl, u2_ne q, rfl, rfl⟩) ?_) (hS.put i2 i3 (adr_rA hns))
  have hcn : cont G (stR M c f (some v)) c = .inr (ci, (fvals G M c 0 (cfT ci)).set f (.ref (adr G v))) := by
    unfold cont
    rw [show mSh (stR M c f (some v)) c = .inr ci from e]
    show (Sum.inr (ci, fvals G (stR M c f (some v)) c 0 (cfT ci)) : va_E) = _
    rw [fvals_set h4 ?_ (fun k t hk => fval_R hk)]
    have hm : mR (stR M c f (some v)) c f = some v := by show u2 (mR M) c f (some v) c f = _; unfold u2; rw [if_pos ⟨rfl, rfl⟩]
    rcases hrk with ⟨t, rfl⟩ | ⟨t, rfl⟩
    · show va_rf ((mR (stR M c f (some v)) c f).map (adr G)) = _
      rw [hm]; rfl
    · show va_rf ((mR (stR M c f (some v)) c f).map (adr G)) = _
      rw [hm]; rfl
  rw [hcn]
  exact ⟨_, h1, t_OB.to (V := updV (vp_V (fvals G M c 0 (cfT ci))) f (.ref (adr G v))) ⟨_, i1, q2, q3, t_set q4 hap h3 _⟩ (fun j _ => vp_updV_set (by rw [fvals_len]; exact (List.getElem?_eq_some_iff.mp h4).1) _ j)⟩
theorem J_aast {k : Mem → Option (α × Mem)} {ci c v : Nat} {i : Int32} (T : u_T) (N : Nat) (hci : vwCl[ci]? = some ("ChainBooks$Head", T, N)) (hdg : decode cc pc = .ok (.aastore, 1)) (k1 : J G l cc nL own ret nm fr lc Q (pc + 1) lv st (stR M c i.toNatClampNeg (some v)) (k (stR M c i.toNatClampNeg (some v)))) : J G l cc nL own ret nm fr lc Q pc lv (.ref (adr G v) :: .int i :: .ref (adr G c) :: st) M (wR M ci c i v k) := by
  unfold wR
  refine J_ite (fun h => ?_) (fun _ => J_none)
  obtain ⟨⟨ha, hns⟩, hv⟩ := h
  obtain ⟨hc, n, e, hin⟩ := okA_spec ha
  obtain ⟨hvc, -, ev⟩ := okO_spec hv
  refine J_stepS (M' := stR M c i.toNatClampNeg (some v)) rfl rfl (fun x A H locs ls cells slots Q' hH hS _ w => ?_) k1
  have hK := A.2.2.2.2.2.2.2.2.1
  have hlt : i.toNatClampNeg < n := Nat.not_le.mp fun q => hin (Or.inr q)
  have h0 : ¬ i < 0 := fun q => hin (Or.inl q)
  obtain ⟨r', hr', cellV, g1, g2, g3, -⟩ := hold_obj hH hvc ev
  have hcls := (hK.1 ci _ hci).2
  obtain ⟨kA, comp, k1, k2, k3, -⟩ := (hK.2 5 _ rfl).2
  have hcomp : comp = G.1.1 ci := Option.some.inj (k3.symm.trans hcls.1)
  subst hcomp
  obtain ⟨kC, hkC, -⟩ := hcls.2
  have harr : H[adr G c]? = some (vp_cell (G.2.1 (.object "ChainBooks$Head")) (n, .inr (.inr (.inr (.inr (fun i => (mR M c i).map (adr G))))))) := hold_arr hH hns hc e
  refine W.aast A.1 A.2.1 harr (fun q h => by cases h) (fun h => by cases h) k1 k2 rfl hkC ⟨h0, by show _ < (arrV _ _ _).slots.size; rw [arrV_size]; exact hlt⟩ g1 (fun q h => by rw [g3] at h; cases h) (by rw [g2]; exact hkC) (by rw [g2]; exact va_assign hcls) rfl rfl hdg fun H1 e1 z oq => ?_
  refine w H1 _ (hold_set hH A.2.2.2.2.2.2.2.2.2.1 hns rfl z oq (fun c' q => ⟨rfl, u2_ne q, rfl, rfl⟩) ?_) (hS.put z oq (adr_rA hns))
  have hcn : cont G (stR M c i.toNatClampNeg (some v)) c = .inl (G.2.1 (.object "ChainBooks$Head"), n, .inr (.inr (.inr (.inr (fun j => (u2 (mR M) c i.toNatClampNeg (some v) c j).map (adr G)))))) := by
    unfold cont
    rw [show mSh (stR M c i.toNatClampNeg (some v)) c = .inl (.object "ChainBooks$Head", n) from e]
    rfl
  rw [hcn]
  show H1[adr G c]? = some (vp_cell _ _)
  rw [e1, vp_cell_q, vp_cell_q, arrV_store]
  congr 2
  funext q
  by_cases hq : q = i.toNatClampNeg
  · subst hq
    simp [updV, u2, va_rf]
  · simp [updV, u2, hq]
end CoreL
end
section
theorem outer_arr (c : ClassId) (N h0 : Nat) : ∀ i : Nat, Jvm.Free.Multi.outerC c N h0 i = arrV c N (fun j => va_rf (if j < i then some (h0 + 1 + j) else none))
  | 0 => by
    show ({ cls := c, slots := Array.replicate N .null, vm := .none } : Cell) = _
    rw [arrV_new]
    exact congrArg (arrV c N) (funext fun j => by simp [va_rf])
  | i + 1 => by
    show (Jvm.Free.Multi.outerC c N h0 i).setSlot i (.ref (h0 + 1 + i)) = _
    rw [outer_arr c N h0 i, arrV_store]
    refine congrArg (arrV c N) (funext fun j => ?_)
    by_cases e : j = i
    · subst e
      simp [updV, va_rf]
    · by_cases h : j < i
      · simp [updV, e, h, Nat.lt_succ_of_lt h]
      · simp [updV, e, h, show ¬ j < i + 1 by omega]
section CoreM
variable {G : Gx} {l : Launch} {cc : ByteArray} {nL : Nat} {own : String} {ret : Option FieldType} {nm : String} {fr lc : Nat} {α : Type} {Q : Cx → Mem → α → Mem → State → Prop} {M M' : Mem} {pc pc' : Nat} {lv lv' : List (Nat × Value)} {st st' : List Value}
theorem J_multi {k : Nat → Mem → Option (α × Mem)} {n m : Int32} {idx : Nat} (w1 : Cond.classLink own idx "[[I" ∈ lwT) (w2 : Cond.arrayClass .int ∈ lwT) (hdg : decode cc pc = .ok (.multianewarray idx 2, 4)) (k1 : J G l cc nL own ret nm fr lc Q (pc + 4) lv (.ref (adr G M.1) :: st) (nwGM M n.toNatClampNeg m.toNatClampNeg) (k M.1 (nwGM M n.toNatClampNeg m.toNatClampNeg))) : J G l cc nL own ret nm fr lc Q pc lv (.int m :: .int n :: st) M (nwG M n m k) := by
  unfold nwG
  refine J_ite (fun h => ?_) (fun _ => J_none)
  obtain ⟨⟨hn, hm⟩, hN, hM⟩ := h
  generalize hNe : n.toNatClampNeg = N at *
  generalize hKe : m.toNatClampNeg = K at *
  refine J_stepN (M' := nwGM M N K) (by show M.1 ≤ M.1 + 1 + N; omega) (by show M.2.1 ≤ M.2.1 + N + N * K; omega) (fun x A H locs ls cells slots Q' c1 c2 hH hS hl w => ?_) k1
  have e1 : (nwGM M N K).1 - M.1 = 1 + N := by show M.1 + 1 + N - M.1 = _; omega
  have e2 : (nwGM M N K).2.1 - M.2.1 = N + N * K := by show M.2.1 + N + N * K - M.2.1 = _; omega
  rw [e1, e2] at w
  rw [e1] at c1
  rw [e2] at c2
  have hts := A.2.2.2.2.1
  have hK := A.2.2.2.2.2.2.2.2.1
  intro T hT X
  subst hNe
  subst hKe
  obtain ⟨vm₁, cA, comp, -, fA, fC, hO, -, X', step⟩ := X.multianewarray2F (ty := .int) A.1 (own := own) (index := idx) A.2.2.2.1 (hts _ w1) (show (Cond.arrayOver (.array .int)).before (xa x) (xs x) = true from A.2.2.2.2.2.2.2.2.2.2.2.2.2.2.1) (hts _ w2) (g := F0 (xm x) pc ls (.int m :: .int n :: st)) rfl (by rw [A.2.1]; exact hdg) rfl hn hm (by omega) (by show m.toNatClampNeg * 4 ≤ _; omega) (by omega) rfl rfl c1 c2
  have hcA : cA = G.2.1 (.array .int) := Option.some.inj (fA.symm.trans (hK.2 4 _ rfl).2)
  have hco : comp = G.2.1 .int := Option.some.inj (fC.symm.trans (hK.2 0 _ rfl).2)
  subst hcA
  subst hco
  generalize hN : n.toNatClampNeg = N at *
  generalize hK9 : m.toNatClampNeg = K at *
  generalize hF : Jvm.Free.Multi.fill (T.setVm vm₁) (G.2.1 (.array .int)) (G.2.1 .int) N K (defaultValue .int) N = F at X' step
  have hTh : (T.setVm vm₁).heap = H := hT
  obtain ⟨f1, f2, -, -⟩ := Jvm.Free.Multi.fill_facts (T.setVm vm₁) (G.2.1 (.array .int)) (G.2.1 .int) N K (defaultValue .int) N
  rw [hF, hTh] at f1 f2
  have hold : ∀ q : Nat, q < H.size → F.heap[q]? = H[q]? := fun q hq => by
    have := Jvm.Free.Multi.fill_old (T.setVm vm₁) (G.2.1 (.array .int)) (G.2.1 .int) N K (defaultValue .int) (a := q) (by rw [hTh]; exact hq) N
    rw [hF, hTh] at this
    exact this
  have hrow : ∀ j : Nat, j < N → F.heap[H.size + 1 + j]? = some (arrV (G.2.1 .int) K (fun _ => .int 0)) := fun j hj => by
    have := Jvm.Free.Multi.fill_inner (T.setVm vm₁) (G.2.1 (.array .int)) (G.2.1 .int) N K (defaultValue .int) N j hj
    rw [hF, hTh] at this
    rw [this]
    show some ({ cls := _, slots := Array.replicate K (.int 0), vm := .none } : Cell) = _
    rw [arrV_new]
  rw [outer_arr] at f2
  have hlo := hH.1
  have hsz := hH.2.1
  have hH1 : Hold G (nwGM M N K) F.heap := by
    refine ⟨by show nS ≤ M.1 + 1 + N; omega, by rw [f1]; show _ = G.2.2.1 + (M.1 + 1 + N - nS); omega, fun c hcn0 hc => ?_, fun c hc => ?_⟩
    rotate_left
    · have q1 : c ≠ M.1 := by omega
      have q2 : ¬ M.1 < c := by omega
      obtain ⟨n', cell, g1, g2, g3, g4, g5⟩ := hH.2.2.2 c hc
      refine ⟨n', cell, ?_, by rw [hold _ (Array.getElem?_eq_some_iff.mp g2).1]; exact g2, g3, g4, fun j hj => ?_⟩
      · show (if c = M.1 then _ else if M.1 < c ∧ c < M.1 + 1 + N then _ else _) = _
        rw [if_neg q1, if_neg (fun z => q2 z.1)]
        exact g1
      · rw [g5 j hj]
        show _ = some (Value.int ((if M.1 < c ∧ c < M.1 + 1 + N then _ else mI M c) j))
        rw [if_neg (fun z => q2 z.1)]
    have hc : c < M.1 + 1 + N := hc
    by_cases q1 : c = M.1
    · subst q1
      have hcn : cont G (nwGM M N K) M.1 = .inl (G.2.1 (.array .int), N, .inr (.inr (.inr (.inr (fun i => (if i < N then some (M.1 + 1 + i) else none).map (adr G)))))) := by
        unfold cont
        rw [show mSh (nwGM M N K) M.1 = .inl (.array .int, N) from if_pos rfl]
        show (Sum.inl (G.2.1 (.array .int), N, .inr (.inr (.inr (.inr (fun i => (u1 (mR M) M.1 (fun i => if i < N then some (M.1 + 1 + i) else none) M.1 i).map (adr G)))))) : va_E) = _
        rw [u1_eq]
      rw [hcn, adr_top hH]
      show F.heap[H.size]? = some (vp_cell _ _)
      rw [f2, vp_cell_q]
      refine congrArg (fun z => some (arrV _ N z)) (funext fun j => ?_)
      by_cases hj : j < N
      · rw [if_pos hj, if_pos hj]
        have ha : adr G (M.1 + 1 + j) = H.size + 1 + j := by
          unfold adr
          rw [if_neg (show ¬ M.1 + 1 + j < nS by omega)]
          omega
        show Value.ref (H.size + 1 + j) = Value.ref (adr G (M.1 + 1 + j))
        rw [ha]
      · rw [if_neg hj, if_neg hj]
        rfl
    · by_cases q2 : M.1 < c
      · have hsh : mSh (nwGM M N K) c = .inl (.int, K) := by
          show (if c = M.1 then _ else if M.1 < c ∧ c < M.1 + 1 + N then _ else _) = _
          rw [if_neg q1, if_pos ⟨q2, hc⟩]
        have hI : mI (nwGM M N K) c = fun _ => 0 := by
          show (if M.1 < c ∧ c < M.1 + 1 + N then _ else _) = _
          rw [if_pos ⟨q2, hc⟩]
        have hcn : cont G (nwGM M N K) c = .inl (G.2.1 .int, K, .inl (fun _ => 0)) := by
          unfold cont
          rw [hsh]
          show (Sum.inl (G.2.1 .int, K, .inl (mI (nwGM M N K) c)) : va_E) = _
          rw [hI]
        rw [hcn]
        show F.heap[adr G c]? = some (vp_cell _ _)
        have ha : adr G c = H.size + 1 + (c - M.1 - 1) := by
          unfold adr
          rw [if_neg (by omega)]
          omega
        rw [ha, hrow _ (by omega), vp_cell_i]
      · have hcn : cont G (nwGM M N K) c = cont G M c := by
          refine cont_congr ?_ (u1_ne q1) ?_ rfl
          · show (if c = M.1 then _ else if M.1 < c ∧ c < M.1 + 1 + N then _ else _) = _
            rw [if_neg q1, if_neg (fun z => q2 z.1)]
          · show (if M.1 < c ∧ c < M.1 + 1 + N then _ else _) = _
            rw [if_neg (fun z => q2 z.1)]
        rw [hcn]
        have h := hH.2.2.1 c hcn0 (by omega)
        exact h.kept (hold _ h.lt)
  obtain ⟨t, a1, b1⟩ := w F.heap hH1 (vaS_push hS (by omega) hold) F rfl (by
    have z1 : cells + (1 + N) = cells + 1 + N := by omega
    have z2 : slots + (N + N * K) = slots + N + N * K := by omega
    rw [z1, z2]
    exact X')
  refine ⟨t, step t ?_, b1⟩
  have hT2 : T.heap.size = adr G M.1 := by rw [adr_top hH, ← hT]
  rw [hT2]
  exact a1
end CoreM
end
section
section CoreN
variable {G : Gx} {l : Launch} {cc : ByteArray} {nL : Nat} {own : String} {ret : Option FieldType} {nm : String} {fr lc : Nat} {α : Type} {Q : Cx → Mem → α → Mem → State → Prop} {M M' : Mem} {pc pc' : Nat} {lv lv' : List (Nat × Value)} {st st' : List Value}
theorem J_callIv {y : MethodName} {cc' : ByteArray} {maxL' fr' lc' idx b : Nat} {As rest : List Value} {kc : Option (Unit × Mem)} {k : Unit → Mem → Option (α × Mem)} (hC : Con G l y cc' maxL' none fr' lc' (fun _ : Unit => none) (.ref (adr G b) :: As) M kc) (hm : MOk y cc' maxL' none As.length) (hy : y.name = "<init>") (w2 : Cond.methodLink own idx y ∈ lwT) (w3 : Cond.instanceMethod y ∈ lwT) (hR : fr' + 1 ≤ fr ∧ 8 + (maxL' + 11) + lc' ≤ lc) (hst : st = As.reverse ++ .ref (adr G b) :: rest) (hrm : (rest.map fun v => v.category).sum ≤ 8) (hdg : decode cc pc = .ok (.invokespecial idx, 3)) (k1 : ∀ r M1, J G l cc nL own ret nm fr lc Q (pc + 3) lv rest M1 (k r M1)) : J G l cc nL own ret nm fr lc Q pc lv st M (bd kc k) := J_callI hC hm hy w2 w3 hR hst hrm hdg k1
theorem J_callINv {host : String} {y : MethodName} {cc' : ByteArray} {maxL' fr' lc' idx b : Nat} {As rest : List Value} {kc : Option (Unit × Mem)} {k : Unit → Mem → Option (α × Mem)} (hC : Con G l y cc' maxL' none fr' lc' (fun _ : Unit => none) (.ref (adr G b) :: As) M kc) (hm : MOk y cc' maxL' none As.length) (hy : y.name = "<init>") (w2 : (own, idx, y, host) ∈ lwN) (w3 : Cond.instanceMethod y ∈ lwT) (hR : fr' + 1 ≤ fr ∧ 8 + (maxL' + 11) + lc' ≤ lc) (hst : st = As.reverse ++ .ref (adr G b) :: rest) (hrm : (rest.map fun v => v.category).sum ≤ 8) (hdg : decode cc pc = .ok (.invokespecial idx, 3)) (k1 : ∀ r M1, J G l cc nL own ret nm fr lc Q (pc + 3) lv rest M1 (k r M1)) : J G l cc nL own ret nm fr lc Q pc lv st M (bd kc k) := J_callIN hC hm hy w2 w3 hR hst hrm hdg k1
end CoreN
theorem nz_int (G : Gx) (M : Mem) (c n : Nat) (h1 : mI M c = fun _ => 0) (h2 : mJ M c = fun _ => 0) : vp_cell (G.2.1 .int) (n, rowOf G M c .int) = arrV (G.2.1 .int) n (fun _ => defaultValue .int) := by
  show vp_cell _ (n, .inl (mI M c)) = _
  rw [h1, vp_cell_i]
  rfl
theorem nz_byte (G : Gx) (M : Mem) (c n : Nat) (h1 : mI M c = fun _ => 0) (h2 : mJ M c = fun _ => 0) : vp_cell (G.2.1 .byte) (n, rowOf G M c .byte) = arrV (G.2.1 .byte) n (fun _ => defaultValue .byte) := by
  show vp_cell _ (n, .inl (mI M c)) = _
  rw [h1, vp_cell_i]
  rfl
theorem nz_boolean (G : Gx) (M : Mem) (c n : Nat) (h1 : mI M c = fun _ => 0) (h2 : mJ M c = fun _ => 0) : vp_cell (G.2.1 .boolean) (n, rowOf G M c .boolean) = arrV (G.2.1 .boolean) n (fun _ => defaultValue .boolean) := by
  show vp_cell _ (n, .inl (mI M c)) = _
  rw [h1, vp_cell_i]
  rfl
theorem nz_long (G : Gx) (M : Mem) (c n : Nat) (h1 : mI M c = fun _ => 0) (h2 : mJ M c = fun _ => 0) : vp_cell (G.2.1 .long) (n, rowOf G M c .long) = arrV (G.2.1 .long) n (fun _ => defaultValue .long) := by
  show vp_cell _ (n, .inr (.inl (mJ M c))) = _
  rw [h2, vp_cell_l]
  rfl
end
