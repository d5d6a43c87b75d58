-- ===== PART A: goes FIRST, ahead of the names: the tables' words, and 'selects' of the private methods out of them =====
/-- a private method of a class that the tables say can be made, by its rows of tables_1 -/
def lw_okq (q : MethodName × Nat) : Prop := (q.1.cls ≠ "java/lang/invoke/MethodHandle" ∧ q.1.cls ≠ "java/lang/invoke/VarHandle") ∧ Cond.instantiable q.1.cls q.2 ∈ tables_1 ∧ Cond.privateMethod q.1 ∈ tables_1 ∧ Cond.instanceMethod q.1 ∈ tables_1
theorem lw_p0 : lw_okq (⟨"YearBaskets$Reader", "readTerm", "(I)V"⟩, 6) := ⟨⟨by decide +kernel, by decide +kernel⟩, List.mem_of_getElem? (i := 58) (by decide +kernel), List.mem_of_getElem? (i := 340) (by decide +kernel), List.mem_of_getElem? (i := 341) (by decide +kernel)⟩
theorem lw_p1 : lw_okq (⟨"YearBaskets$Reader", "skipBlanks", "()V"⟩, 6) := ⟨⟨by decide +kernel, by decide +kernel⟩, List.mem_of_getElem? (i := 58) (by decide +kernel), List.mem_of_getElem? (i := 344) (by decide +kernel), List.mem_of_getElem? (i := 345) (by decide +kernel)⟩
theorem lw_p2 : lw_okq (⟨"YearBaskets$Reader", "byteAt", "(I)I"⟩, 6) := ⟨⟨by decide +kernel, by decide +kernel⟩, List.mem_of_getElem? (i := 58) (by decide +kernel), List.mem_of_getElem? (i := 348) (by decide +kernel), List.mem_of_getElem? (i := 349) (by decide +kernel)⟩
theorem lw_p3 : lw_okq (⟨"YearBaskets$Reader", "lettersHere", "()I"⟩, 6) := ⟨⟨by decide +kernel, by decide +kernel⟩, List.mem_of_getElem? (i := 58) (by decide +kernel), List.mem_of_getElem? (i := 352) (by decide +kernel), List.mem_of_getElem? (i := 353) (by decide +kernel)⟩
theorem lw_p4 : lw_okq (⟨"YearBaskets$Reader", "wordHere", "(I)I"⟩, 6) := ⟨⟨by decide +kernel, by decide +kernel⟩, List.mem_of_getElem? (i := 58) (by decide +kernel), List.mem_of_getElem? (i := 356) (by decide +kernel), List.mem_of_getElem? (i := 357) (by decide +kernel)⟩
theorem lw_p5 : lw_okq (⟨"YearBaskets$Reader", "isHere", "(Ljava/lang/String;I)Z"⟩, 6) := ⟨⟨by decide +kernel, by decide +kernel⟩, List.mem_of_getElem? (i := 58) (by decide +kernel), List.mem_of_getElem? (i := 376) (by decide +kernel), List.mem_of_getElem? (i := 377) (by decide +kernel)⟩
theorem lw_p6 : lw_okq (⟨"YearBaskets$Reader", "blame", "(I)V"⟩, 6) := ⟨⟨by decide +kernel, by decide +kernel⟩, List.mem_of_getElem? (i := 58) (by decide +kernel), List.mem_of_getElem? (i := 428) (by decide +kernel), List.mem_of_getElem? (i := 429) (by decide +kernel)⟩
theorem lw_p7 : lw_okq (⟨"YearBaskets$Reader", "readYear", "(I)V"⟩, 6) := ⟨⟨by decide +kernel, by decide +kernel⟩, List.mem_of_getElem? (i := 58) (by decide +kernel), List.mem_of_getElem? (i := 436) (by decide +kernel), List.mem_of_getElem? (i := 437) (by decide +kernel)⟩
theorem lw_p8 : lw_okq (⟨"YearBaskets$Reader", "readPair", "(II)V"⟩, 6) := ⟨⟨by decide +kernel, by decide +kernel⟩, List.mem_of_getElem? (i := 58) (by decide +kernel), List.mem_of_getElem? (i := 445) (by decide +kernel), List.mem_of_getElem? (i := 446) (by decide +kernel)⟩
theorem lw_p9 : lw_okq (⟨"YearBaskets$Reader", "readSign", "(C)V"⟩, 6) := ⟨⟨by decide +kernel, by decide +kernel⟩, List.mem_of_getElem? (i := 58) (by decide +kernel), List.mem_of_getElem? (i := 449) (by decide +kernel), List.mem_of_getElem? (i := 450) (by decide +kernel)⟩
theorem lw_p10 : lw_okq (⟨"YearBaskets", "isNoNumber", "(I)Z"⟩, 11) := ⟨⟨by decide +kernel, by decide +kernel⟩, List.mem_of_getElem? (i := 18) (by decide +kernel), List.mem_of_getElem? (i := 462) (by decide +kernel), List.mem_of_getElem? (i := 463) (by decide +kernel)⟩
theorem lw_p11 : lw_okq (⟨"YearBaskets", "planOf", "(I)LYearBaskets$Plan;"⟩, 11) := ⟨⟨by decide +kernel, by decide +kernel⟩, List.mem_of_getElem? (i := 18) (by decide +kernel), List.mem_of_getElem? (i := 468) (by decide +kernel), List.mem_of_getElem? (i := 469) (by decide +kernel)⟩
theorem lw_p12 : lw_okq (⟨"YearBaskets$Teller", "isReady", "(LYearBaskets$Plan;LYearBaskets$Books;ILYearBaskets$Fraction;)Z"⟩, 4) := ⟨⟨by decide +kernel, by decide +kernel⟩, List.mem_of_getElem? (i := 86) (by decide +kernel), List.mem_of_getElem? (i := 476) (by decide +kernel), List.mem_of_getElem? (i := 477) (by decide +kernel)⟩
theorem lw_p13 : lw_okq (⟨"YearBaskets$Teller", "tellTerm", "(IIIIILYearBaskets$Fraction;)V"⟩, 4) := ⟨⟨by decide +kernel, by decide +kernel⟩, List.mem_of_getElem? (i := 86) (by decide +kernel), List.mem_of_getElem? (i := 485) (by decide +kernel), List.mem_of_getElem? (i := 486) (by decide +kernel)⟩
theorem lw_p14 : lw_okq (⟨"YearBaskets$Teller", "tellPlain", "(IIILYearBaskets$Fraction;)V"⟩, 4) := ⟨⟨by decide +kernel, by decide +kernel⟩, List.mem_of_getElem? (i := 86) (by decide +kernel), List.mem_of_getElem? (i := 493) (by decide +kernel), List.mem_of_getElem? (i := 494) (by decide +kernel)⟩
theorem lw_p15 : lw_okq (⟨"YearBaskets$Teller", "tellPair", "(IIIIILYearBaskets$Fraction;)V"⟩, 4) := ⟨⟨by decide +kernel, by decide +kernel⟩, List.mem_of_getElem? (i := 86) (by decide +kernel), List.mem_of_getElem? (i := 514) (by decide +kernel), List.mem_of_getElem? (i := 515) (by decide +kernel)⟩
def lw_privs_1 : List (MethodName × Nat) := [(⟨"YearBaskets$Reader", "readTerm", "(I)V"⟩, 6), (⟨"YearBaskets$Reader", "skipBlanks", "()V"⟩, 6), (⟨"YearBaskets$Reader", "byteAt", "(I)I"⟩, 6), (⟨"YearBaskets$Reader", "lettersHere", "()I"⟩, 6), (⟨"YearBaskets$Reader", "wordHere", "(I)I"⟩, 6), (⟨"YearBaskets$Reader", "isHere", "(Ljava/lang/String;I)Z"⟩, 6), (⟨"YearBaskets$Reader", "blame", "(I)V"⟩, 6), (⟨"YearBaskets$Reader", "readYear", "(I)V"⟩, 6), (⟨"YearBaskets$Reader", "readPair", "(II)V"⟩, 6), (⟨"YearBaskets$Reader", "readSign", "(C)V"⟩, 6), (⟨"YearBaskets", "isNoNumber", "(I)Z"⟩, 11), (⟨"YearBaskets", "planOf", "(I)LYearBaskets$Plan;"⟩, 11), (⟨"YearBaskets$Teller", "isReady", "(LYearBaskets$Plan;LYearBaskets$Books;ILYearBaskets$Fraction;)Z"⟩, 4), (⟨"YearBaskets$Teller", "tellTerm", "(IIIIILYearBaskets$Fraction;)V"⟩, 4), (⟨"YearBaskets$Teller", "tellPlain", "(IIILYearBaskets$Fraction;)V"⟩, 4), (⟨"YearBaskets$Teller", "tellPair", "(IIIIILYearBaskets$Fraction;)V"⟩, 4)]
theorem lw_r1 : ∀ q ∈ lw_privs_1, lw_okq q := List.forall_mem_cons.mpr ⟨lw_p0, List.forall_mem_cons.mpr ⟨lw_p1, List.forall_mem_cons.mpr ⟨lw_p2, List.forall_mem_cons.mpr ⟨lw_p3, List.forall_mem_cons.mpr ⟨lw_p4, List.forall_mem_cons.mpr ⟨lw_p5, List.forall_mem_cons.mpr ⟨lw_p6, List.forall_mem_cons.mpr ⟨lw_p7, List.forall_mem_cons.mpr ⟨lw_p8, List.forall_mem_cons.mpr ⟨lw_p9, List.forall_mem_cons.mpr ⟨lw_p10, List.forall_mem_cons.mpr ⟨lw_p11, List.forall_mem_cons.mpr ⟨lw_p12, List.forall_mem_cons.mpr ⟨lw_p13, List.forall_mem_cons.mpr ⟨lw_p14, List.forall_mem_cons.mpr ⟨lw_p15, fun _ h => absurd h List.not_mem_nil⟩⟩⟩⟩⟩⟩⟩⟩⟩⟩⟩⟩⟩⟩⟩⟩
theorem lw_p16 : lw_okq (⟨"YearBaskets$Teller", "spareAt", "(I)LYearBaskets$Fraction;"⟩, 4) := ⟨⟨by decide +kernel, by decide +kernel⟩, List.mem_of_getElem? (i := 86) (by decide +kernel), List.mem_of_getElem? (i := 518) (by decide +kernel), List.mem_of_getElem? (i := 519) (by decide +kernel)⟩
theorem lw_p17 : lw_okq (⟨"YearBaskets$Teller", "tellLink", "(IIIIILYearBaskets$Fraction;)V"⟩, 4) := ⟨⟨by decide +kernel, by decide +kernel⟩, List.mem_of_getElem? (i := 86) (by decide +kernel), List.mem_of_getElem? (i := 544) (by decide +kernel), List.mem_of_getElem? (i := 545) (by decide +kernel)⟩
theorem lw_p18 : lw_okq (⟨"YearBaskets$Teller", "tellCosts", "(IIIILYearBaskets$Fraction;)V"⟩, 4) := ⟨⟨by decide +kernel, by decide +kernel⟩, List.mem_of_getElem? (i := 86) (by decide +kernel), List.mem_of_getElem? (i := 552) (by decide +kernel), List.mem_of_getElem? (i := 553) (by decide +kernel)⟩
theorem lw_p19 : lw_okq (⟨"YearBaskets$Laws", "tellAllYears", "()V"⟩, 13) := ⟨⟨by decide +kernel, by decide +kernel⟩, List.mem_of_getElem? (i := 137) (by decide +kernel), List.mem_of_getElem? (i := 580) (by decide +kernel), List.mem_of_getElem? (i := 581) (by decide +kernel)⟩
theorem lw_p20 : lw_okq (⟨"YearBaskets$Laws", "isBroken", "(IIII)Z"⟩, 13) := ⟨⟨by decide +kernel, by decide +kernel⟩, List.mem_of_getElem? (i := 137) (by decide +kernel), List.mem_of_getElem? (i := 586) (by decide +kernel), List.mem_of_getElem? (i := 587) (by decide +kernel)⟩
theorem lw_p21 : lw_okq (⟨"YearBaskets$Laws", "isBeyondRatios", "(II)Z"⟩, 13) := ⟨⟨by decide +kernel, by decide +kernel⟩, List.mem_of_getElem? (i := 137) (by decide +kernel), List.mem_of_getElem? (i := 590) (by decide +kernel), List.mem_of_getElem? (i := 591) (by decide +kernel)⟩
theorem lw_p22 : lw_okq (⟨"YearBaskets$Laws", "compareRatios", "(IIII)I"⟩, 13) := ⟨⟨by decide +kernel, by decide +kernel⟩, List.mem_of_getElem? (i := 137) (by decide +kernel), List.mem_of_getElem? (i := 595) (by decide +kernel), List.mem_of_getElem? (i := 596) (by decide +kernel)⟩
theorem lw_p23 : lw_okq (⟨"YearBaskets$Laws", "recall", "(IILYearBaskets$Fraction;)V"⟩, 13) := ⟨⟨by decide +kernel, by decide +kernel⟩, List.mem_of_getElem? (i := 137) (by decide +kernel), List.mem_of_getElem? (i := 602) (by decide +kernel), List.mem_of_getElem? (i := 603) (by decide +kernel)⟩
theorem lw_p24 : lw_okq (⟨"YearBaskets$Laws", "changeBooks", "(IIII)V"⟩, 13) := ⟨⟨by decide +kernel, by decide +kernel⟩, List.mem_of_getElem? (i := 137) (by decide +kernel), List.mem_of_getElem? (i := 611) (by decide +kernel), List.mem_of_getElem? (i := 612) (by decide +kernel)⟩
theorem lw_p25 : lw_okq (⟨"YearBaskets$Laws", "isKeptByOne", "(II)Z"⟩, 13) := ⟨⟨by decide +kernel, by decide +kernel⟩, List.mem_of_getElem? (i := 137) (by decide +kernel), List.mem_of_getElem? (i := 662) (by decide +kernel), List.mem_of_getElem? (i := 663) (by decide +kernel)⟩
theorem lw_p26 : lw_okq (⟨"YearBaskets$Likes", "chooseAll", "(I)V"⟩, 4) := ⟨⟨by decide +kernel, by decide +kernel⟩, List.mem_of_getElem? (i := 186) (by decide +kernel), List.mem_of_getElem? (i := 694) (by decide +kernel), List.mem_of_getElem? (i := 695) (by decide +kernel)⟩
theorem lw_p27 : lw_okq (⟨"YearBaskets$Likes", "hasRing", "()Z"⟩, 4) := ⟨⟨by decide +kernel, by decide +kernel⟩, List.mem_of_getElem? (i := 186) (by decide +kernel), List.mem_of_getElem? (i := 699) (by decide +kernel), List.mem_of_getElem? (i := 700) (by decide +kernel)⟩
theorem lw_p28 : lw_okq (⟨"YearBaskets$Likes", "findAsGood", "(I)V"⟩, 4) := ⟨⟨by decide +kernel, by decide +kernel⟩, List.mem_of_getElem? (i := 186) (by decide +kernel), List.mem_of_getElem? (i := 703) (by decide +kernel), List.mem_of_getElem? (i := 704) (by decide +kernel)⟩
theorem lw_p29 : lw_okq (⟨"YearBaskets$Likes", "choiceAt", "(II)I"⟩, 4) := ⟨⟨by decide +kernel, by decide +kernel⟩, List.mem_of_getElem? (i := 186) (by decide +kernel), List.mem_of_getElem? (i := 707) (by decide +kernel), List.mem_of_getElem? (i := 708) (by decide +kernel)⟩
theorem lw_p30 : lw_okq (⟨"YearBaskets$Likes", "setYearInRing", "(II)V"⟩, 4) := ⟨⟨by decide +kernel, by decide +kernel⟩, List.mem_of_getElem? (i := 186) (by decide +kernel), List.mem_of_getElem? (i := 712) (by decide +kernel), List.mem_of_getElem? (i := 713) (by decide +kernel)⟩
theorem lw_p31 : lw_okq (⟨"YearBaskets$Likes", "closesFrom", "(IIIZ)Z"⟩, 4) := ⟨⟨by decide +kernel, by decide +kernel⟩, List.mem_of_getElem? (i := 186) (by decide +kernel), List.mem_of_getElem? (i := 716) (by decide +kernel), List.mem_of_getElem? (i := 717) (by decide +kernel)⟩
def lw_privs_2 : List (MethodName × Nat) := [(⟨"YearBaskets$Teller", "spareAt", "(I)LYearBaskets$Fraction;"⟩, 4), (⟨"YearBaskets$Teller", "tellLink", "(IIIIILYearBaskets$Fraction;)V"⟩, 4), (⟨"YearBaskets$Teller", "tellCosts", "(IIIILYearBaskets$Fraction;)V"⟩, 4), (⟨"YearBaskets$Laws", "tellAllYears", "()V"⟩, 13), (⟨"YearBaskets$Laws", "isBroken", "(IIII)Z"⟩, 13), (⟨"YearBaskets$Laws", "isBeyondRatios", "(II)Z"⟩, 13), (⟨"YearBaskets$Laws", "compareRatios", "(IIII)I"⟩, 13), (⟨"YearBaskets$Laws", "recall", "(IILYearBaskets$Fraction;)V"⟩, 13), (⟨"YearBaskets$Laws", "changeBooks", "(IIII)V"⟩, 13), (⟨"YearBaskets$Laws", "isKeptByOne", "(II)Z"⟩, 13), (⟨"YearBaskets$Likes", "chooseAll", "(I)V"⟩, 4), (⟨"YearBaskets$Likes", "hasRing", "()Z"⟩, 4), (⟨"YearBaskets$Likes", "findAsGood", "(I)V"⟩, 4), (⟨"YearBaskets$Likes", "choiceAt", "(II)I"⟩, 4), (⟨"YearBaskets$Likes", "setYearInRing", "(II)V"⟩, 4), (⟨"YearBaskets$Likes", "closesFrom", "(IIIZ)Z"⟩, 4)]
theorem lw_r2 : ∀ q ∈ lw_privs_2, lw_okq q := List.forall_mem_cons.mpr ⟨lw_p16, List.forall_mem_cons.mpr ⟨lw_p17, List.forall_mem_cons.mpr ⟨lw_p18, List.forall_mem_cons.mpr ⟨lw_p19, List.forall_mem_cons.mpr ⟨lw_p20, List.forall_mem_cons.mpr ⟨lw_p21, List.forall_mem_cons.mpr ⟨lw_p22, List.forall_mem_cons.mpr ⟨lw_p23, List.forall_mem_cons.mpr ⟨lw_p24, List.forall_mem_cons.mpr ⟨lw_p25, List.forall_mem_cons.mpr ⟨lw_p26, List.forall_mem_cons.mpr ⟨lw_p27, List.forall_mem_cons.mpr ⟨lw_p28, List.forall_mem_cons.mpr ⟨lw_p29, List.forall_mem_cons.mpr ⟨lw_p30, List.forall_mem_cons.mpr ⟨lw_p31, fun _ h => absurd h List.not_mem_nil⟩⟩⟩⟩⟩⟩⟩⟩⟩⟩⟩⟩⟩⟩⟩⟩
theorem lw_p32 : lw_okq (⟨"YearBasketsModel", "costOf", "(IIII)I"⟩, 40) := ⟨⟨by decide +kernel, by decide +kernel⟩, List.mem_of_getElem? (i := 764) (by decide +kernel), List.mem_of_getElem? (i := 921) (by decide +kernel), List.mem_of_getElem? (i := 922) (by decide +kernel)⟩
theorem lw_p33 : lw_okq (⟨"YearBasketsModel", "buying", "(III)I"⟩, 40) := ⟨⟨by decide +kernel, by decide +kernel⟩, List.mem_of_getElem? (i := 764) (by decide +kernel), List.mem_of_getElem? (i := 925) (by decide +kernel), List.mem_of_getElem? (i := 926) (by decide +kernel)⟩
theorem lw_p34 : lw_okq (⟨"YearBasketsModel", "priced", "(I)I"⟩, 40) := ⟨⟨by decide +kernel, by decide +kernel⟩, List.mem_of_getElem? (i := 764) (by decide +kernel), List.mem_of_getElem? (i := 933) (by decide +kernel), List.mem_of_getElem? (i := 934) (by decide +kernel)⟩
theorem lw_p35 : lw_okq (⟨"YearBasketsModel", "allGoods", "()I"⟩, 40) := ⟨⟨by decide +kernel, by decide +kernel⟩, List.mem_of_getElem? (i := 764) (by decide +kernel), List.mem_of_getElem? (i := 937) (by decide +kernel), List.mem_of_getElem? (i := 938) (by decide +kernel)⟩
theorem lw_p36 : lw_okq (⟨"YearBasketsModel", "readNode", "(I)I"⟩, 40) := ⟨⟨by decide +kernel, by decide +kernel⟩, List.mem_of_getElem? (i := 764) (by decide +kernel), List.mem_of_getElem? (i := 955) (by decide +kernel), List.mem_of_getElem? (i := 956) (by decide +kernel)⟩
theorem lw_p37 : lw_okq (⟨"YearBasketsModel", "readKind", "()I"⟩, 40) := ⟨⟨by decide +kernel, by decide +kernel⟩, List.mem_of_getElem? (i := 764) (by decide +kernel), List.mem_of_getElem? (i := 959) (by decide +kernel), List.mem_of_getElem? (i := 960) (by decide +kernel)⟩
theorem lw_p38 : lw_okq (⟨"YearBasketsModel", "here", "()I"⟩, 40) := ⟨⟨by decide +kernel, by decide +kernel⟩, List.mem_of_getElem? (i := 764) (by decide +kernel), List.mem_of_getElem? (i := 963) (by decide +kernel), List.mem_of_getElem? (i := 964) (by decide +kernel)⟩
theorem lw_p39 : lw_okq (⟨"YearBasketsModel", "fails", "(II)I"⟩, 40) := ⟨⟨by decide +kernel, by decide +kernel⟩, List.mem_of_getElem? (i := 764) (by decide +kernel), List.mem_of_getElem? (i := 976) (by decide +kernel), List.mem_of_getElem? (i := 977) (by decide +kernel)⟩
theorem lw_p40 : lw_okq (⟨"YearBasketsModel", "sign", "(I)I"⟩, 40) := ⟨⟨by decide +kernel, by decide +kernel⟩, List.mem_of_getElem? (i := 764) (by decide +kernel), List.mem_of_getElem? (i := 988) (by decide +kernel), List.mem_of_getElem? (i := 989) (by decide +kernel)⟩
theorem lw_p41 : lw_okq (⟨"YearBasketsModel", "close", "(I)I"⟩, 40) := ⟨⟨by decide +kernel, by decide +kernel⟩, List.mem_of_getElem? (i := 764) (by decide +kernel), List.mem_of_getElem? (i := 992) (by decide +kernel), List.mem_of_getElem? (i := 993) (by decide +kernel)⟩
theorem lw_p42 : lw_okq (⟨"YearBasketsModel", "isNumber", "(I)Z"⟩, 40) := ⟨⟨by decide +kernel, by decide +kernel⟩, List.mem_of_getElem? (i := 764) (by decide +kernel), List.mem_of_getElem? (i := 1004) (by decide +kernel), List.mem_of_getElem? (i := 1005) (by decide +kernel)⟩
theorem lw_p43 : lw_okq (⟨"YearBasketsModel", "find", "(IIII)I"⟩, 40) := ⟨⟨by decide +kernel, by decide +kernel⟩, List.mem_of_getElem? (i := 764) (by decide +kernel), List.mem_of_getElem? (i := 1010) (by decide +kernel), List.mem_of_getElem? (i := 1011) (by decide +kernel)⟩
theorem lw_p44 : lw_okq (⟨"YearBasketsModel", "push", "(IIII)V"⟩, 40) := ⟨⟨by decide +kernel, by decide +kernel⟩, List.mem_of_getElem? (i := 764) (by decide +kernel), List.mem_of_getElem? (i := 1014) (by decide +kernel), List.mem_of_getElem? (i := 1015) (by decide +kernel)⟩
theorem lw_p45 : lw_okq (⟨"YearBasketsModel", "work", "(IZ)I"⟩, 40) := ⟨⟨by decide +kernel, by decide +kernel⟩, List.mem_of_getElem? (i := 764) (by decide +kernel), List.mem_of_getElem? (i := 1018) (by decide +kernel), List.mem_of_getElem? (i := 1019) (by decide +kernel)⟩
theorem lw_p46 : lw_okq (⟨"YearBasketsModel", "leaf", "(IIIII)I"⟩, 40) := ⟨⟨by decide +kernel, by decide +kernel⟩, List.mem_of_getElem? (i := 764) (by decide +kernel), List.mem_of_getElem? (i := 1022) (by decide +kernel), List.mem_of_getElem? (i := 1023) (by decide +kernel)⟩
theorem lw_p47 : lw_okq (⟨"YearBasketsModel", "plain", "(III)I"⟩, 40) := ⟨⟨by decide +kernel, by decide +kernel⟩, List.mem_of_getElem? (i := 764) (by decide +kernel), List.mem_of_getElem? (i := 1026) (by decide +kernel), List.mem_of_getElem? (i := 1027) (by decide +kernel)⟩
def lw_privs_3 : List (MethodName × Nat) := [(⟨"YearBasketsModel", "costOf", "(IIII)I"⟩, 40), (⟨"YearBasketsModel", "buying", "(III)I"⟩, 40), (⟨"YearBasketsModel", "priced", "(I)I"⟩, 40), (⟨"YearBasketsModel", "allGoods", "()I"⟩, 40), (⟨"YearBasketsModel", "readNode", "(I)I"⟩, 40), (⟨"YearBasketsModel", "readKind", "()I"⟩, 40), (⟨"YearBasketsModel", "here", "()I"⟩, 40), (⟨"YearBasketsModel", "fails", "(II)I"⟩, 40), (⟨"YearBasketsModel", "sign", "(I)I"⟩, 40), (⟨"YearBasketsModel", "close", "(I)I"⟩, 40), (⟨"YearBasketsModel", "isNumber", "(I)Z"⟩, 40), (⟨"YearBasketsModel", "find", "(IIII)I"⟩, 40), (⟨"YearBasketsModel", "push", "(IIII)V"⟩, 40), (⟨"YearBasketsModel", "work", "(IZ)I"⟩, 40), (⟨"YearBasketsModel", "leaf", "(IIIII)I"⟩, 40), (⟨"YearBasketsModel", "plain", "(III)I"⟩, 40)]
theorem lw_r3 : ∀ q ∈ lw_privs_3, lw_okq q := List.forall_mem_cons.mpr ⟨lw_p32, List.forall_mem_cons.mpr ⟨lw_p33, List.forall_mem_cons.mpr ⟨lw_p34, List.forall_mem_cons.mpr ⟨lw_p35, List.forall_mem_cons.mpr ⟨lw_p36, List.forall_mem_cons.mpr ⟨lw_p37, List.forall_mem_cons.mpr ⟨lw_p38, List.forall_mem_cons.mpr ⟨lw_p39, List.forall_mem_cons.mpr ⟨lw_p40, List.forall_mem_cons.mpr ⟨lw_p41, List.forall_mem_cons.mpr ⟨lw_p42, List.forall_mem_cons.mpr ⟨lw_p43, List.forall_mem_cons.mpr ⟨lw_p44, List.forall_mem_cons.mpr ⟨lw_p45, List.forall_mem_cons.mpr ⟨lw_p46, List.forall_mem_cons.mpr ⟨lw_p47, fun _ h => absurd h List.not_mem_nil⟩⟩⟩⟩⟩⟩⟩⟩⟩⟩⟩⟩⟩⟩⟩⟩
theorem lw_p48 : lw_okq (⟨"YearBasketsModel", "take", "(JJZ)I"⟩, 40) := ⟨⟨by decide +kernel, by decide +kernel⟩, List.mem_of_getElem? (i := 764) (by decide +kernel), List.mem_of_getElem? (i := 1030) (by decide +kernel), List.mem_of_getElem? (i := 1031) (by decide +kernel)⟩
theorem lw_p49 : lw_okq (⟨"YearBasketsModel", "sums", "(III)I"⟩, 40) := ⟨⟨by decide +kernel, by decide +kernel⟩, List.mem_of_getElem? (i := 764) (by decide +kernel), List.mem_of_getElem? (i := 1038) (by decide +kernel), List.mem_of_getElem? (i := 1039) (by decide +kernel)⟩
theorem lw_p50 : lw_okq (⟨"YearBasketsModel", "chain", "(IZ)I"⟩, 40) := ⟨⟨by decide +kernel, by decide +kernel⟩, List.mem_of_getElem? (i := 764) (by decide +kernel), List.mem_of_getElem? (i := 1042) (by decide +kernel), List.mem_of_getElem? (i := 1043) (by decide +kernel)⟩
theorem lw_p51 : lw_okq (⟨"YearBasketsModel", "multiply", "(JJJJZ)I"⟩, 40) := ⟨⟨by decide +kernel, by decide +kernel⟩, List.mem_of_getElem? (i := 764) (by decide +kernel), List.mem_of_getElem? (i := 1046) (by decide +kernel), List.mem_of_getElem? (i := 1047) (by decide +kernel)⟩
theorem lw_p52 : lw_okq (⟨"YearBasketsModel", "hold", "(I)V"⟩, 40) := ⟨⟨by decide +kernel, by decide +kernel⟩, List.mem_of_getElem? (i := 764) (by decide +kernel), List.mem_of_getElem? (i := 1050) (by decide +kernel), List.mem_of_getElem? (i := 1051) (by decide +kernel)⟩
theorem lw_p53 : lw_okq (⟨"YearBasketsModel", "join", "(I)I"⟩, 40) := ⟨⟨by decide +kernel, by decide +kernel⟩, List.mem_of_getElem? (i := 764) (by decide +kernel), List.mem_of_getElem? (i := 1054) (by decide +kernel), List.mem_of_getElem? (i := 1055) (by decide +kernel)⟩
theorem lw_p54 : lw_okq (⟨"YearBasketsModel", "half", "(JJ)I"⟩, 40) := ⟨⟨by decide +kernel, by decide +kernel⟩, List.mem_of_getElem? (i := 764) (by decide +kernel), List.mem_of_getElem? (i := 1058) (by decide +kernel), List.mem_of_getElem? (i := 1059) (by decide +kernel)⟩
theorem lw_p55 : lw_okq (⟨"YearBasketsModel", "orderOf", "(JJZJJZ)I"⟩, 40) := ⟨⟨by decide +kernel, by decide +kernel⟩, List.mem_of_getElem? (i := 764) (by decide +kernel), List.mem_of_getElem? (i := 1062) (by decide +kernel), List.mem_of_getElem? (i := 1063) (by decide +kernel)⟩
theorem lw_p56 : lw_okq (⟨"YearBasketsModel", "findKept", "(IIIII)I"⟩, 40) := ⟨⟨by decide +kernel, by decide +kernel⟩, List.mem_of_getElem? (i := 764) (by decide +kernel), List.mem_of_getElem? (i := 1073) (by decide +kernel), List.mem_of_getElem? (i := 1074) (by decide +kernel)⟩
theorem lw_p57 : lw_okq (⟨"YearBasketsModel", "keep", "(I)V"⟩, 40) := ⟨⟨by decide +kernel, by decide +kernel⟩, List.mem_of_getElem? (i := 764) (by decide +kernel), List.mem_of_getElem? (i := 1077) (by decide +kernel), List.mem_of_getElem? (i := 1078) (by decide +kernel)⟩
theorem lw_p58 : lw_okq (⟨"YearBasketsModel", "orderKept", "(II)I"⟩, 40) := ⟨⟨by decide +kernel, by decide +kernel⟩, List.mem_of_getElem? (i := 764) (by decide +kernel), List.mem_of_getElem? (i := 1081) (by decide +kernel), List.mem_of_getElem? (i := 1082) (by decide +kernel)⟩
theorem lw_p59 : lw_okq (⟨"YearBasketsModel", "isBroken", "(III)Z"⟩, 40) := ⟨⟨by decide +kernel, by decide +kernel⟩, List.mem_of_getElem? (i := 764) (by decide +kernel), List.mem_of_getElem? (i := 1093) (by decide +kernel), List.mem_of_getElem? (i := 1094) (by decide +kernel)⟩
theorem lw_p60 : lw_okq (⟨"YearBasketsModel", "law", "(IIIIII)I"⟩, 40) := ⟨⟨by decide +kernel, by decide +kernel⟩, List.mem_of_getElem? (i := 764) (by decide +kernel), List.mem_of_getElem? (i := 1097) (by decide +kernel), List.mem_of_getElem? (i := 1098) (by decide +kernel)⟩
theorem lw_p61 : lw_okq (⟨"YearBasketsModel", "sameLaw", "(IIII)I"⟩, 40) := ⟨⟨by decide +kernel, by decide +kernel⟩, List.mem_of_getElem? (i := 764) (by decide +kernel), List.mem_of_getElem? (i := 1101) (by decide +kernel), List.mem_of_getElem? (i := 1102) (by decide +kernel)⟩
theorem lw_p62 : lw_okq (⟨"YearBasketsModel", "holdBooks", "()V"⟩, 40) := ⟨⟨by decide +kernel, by decide +kernel⟩, List.mem_of_getElem? (i := 764) (by decide +kernel), List.mem_of_getElem? (i := 1105) (by decide +kernel), List.mem_of_getElem? (i := 1106) (by decide +kernel)⟩
theorem lw_p63 : lw_okq (⟨"YearBasketsModel", "putBooks", "()V"⟩, 40) := ⟨⟨by decide +kernel, by decide +kernel⟩, List.mem_of_getElem? (i := 764) (by decide +kernel), List.mem_of_getElem? (i := 1109) (by decide +kernel), List.mem_of_getElem? (i := 1110) (by decide +kernel)⟩
def lw_privs_4 : List (MethodName × Nat) := [(⟨"YearBasketsModel", "take", "(JJZ)I"⟩, 40), (⟨"YearBasketsModel", "sums", "(III)I"⟩, 40), (⟨"YearBasketsModel", "chain", "(IZ)I"⟩, 40), (⟨"YearBasketsModel", "multiply", "(JJJJZ)I"⟩, 40), (⟨"YearBasketsModel", "hold", "(I)V"⟩, 40), (⟨"YearBasketsModel", "join", "(I)I"⟩, 40), (⟨"YearBasketsModel", "half", "(JJ)I"⟩, 40), (⟨"YearBasketsModel", "orderOf", "(JJZJJZ)I"⟩, 40), (⟨"YearBasketsModel", "findKept", "(IIIII)I"⟩, 40), (⟨"YearBasketsModel", "keep", "(I)V"⟩, 40), (⟨"YearBasketsModel", "orderKept", "(II)I"⟩, 40), (⟨"YearBasketsModel", "isBroken", "(III)Z"⟩, 40), (⟨"YearBasketsModel", "law", "(IIIIII)I"⟩, 40), (⟨"YearBasketsModel", "sameLaw", "(IIII)I"⟩, 40), (⟨"YearBasketsModel", "holdBooks", "()V"⟩, 40), (⟨"YearBasketsModel", "putBooks", "()V"⟩, 40)]
theorem lw_r4 : ∀ q ∈ lw_privs_4, lw_okq q := List.forall_mem_cons.mpr ⟨lw_p48, List.forall_mem_cons.mpr ⟨lw_p49, List.forall_mem_cons.mpr ⟨lw_p50, List.forall_mem_cons.mpr ⟨lw_p51, List.forall_mem_cons.mpr ⟨lw_p52, List.forall_mem_cons.mpr ⟨lw_p53, List.forall_mem_cons.mpr ⟨lw_p54, List.forall_mem_cons.mpr ⟨lw_p55, List.forall_mem_cons.mpr ⟨lw_p56, List.forall_mem_cons.mpr ⟨lw_p57, List.forall_mem_cons.mpr ⟨lw_p58, List.forall_mem_cons.mpr ⟨lw_p59, List.forall_mem_cons.mpr ⟨lw_p60, List.forall_mem_cons.mpr ⟨lw_p61, List.forall_mem_cons.mpr ⟨lw_p62, List.forall_mem_cons.mpr ⟨lw_p63, fun _ h => absurd h List.not_mem_nil⟩⟩⟩⟩⟩⟩⟩⟩⟩⟩⟩⟩⟩⟩⟩⟩
theorem lw_p64 : lw_okq (⟨"YearBasketsModel", "isOneKept", "(I)I"⟩, 40) := ⟨⟨by decide +kernel, by decide +kernel⟩, List.mem_of_getElem? (i := 764) (by decide +kernel), List.mem_of_getElem? (i := 1113) (by decide +kernel), List.mem_of_getElem? (i := 1114) (by decide +kernel)⟩
theorem lw_p65 : lw_okq (⟨"YearBasketsModel", "backLaw", "(IIII)I"⟩, 40) := ⟨⟨by decide +kernel, by decide +kernel⟩, List.mem_of_getElem? (i := 764) (by decide +kernel), List.mem_of_getElem? (i := 1117) (by decide +kernel), List.mem_of_getElem? (i := 1118) (by decide +kernel)⟩
theorem lw_p66 : lw_okq (⟨"YearBasketsModel", "product", "(II)I"⟩, 40) := ⟨⟨by decide +kernel, by decide +kernel⟩, List.mem_of_getElem? (i := 764) (by decide +kernel), List.mem_of_getElem? (i := 1121) (by decide +kernel), List.mem_of_getElem? (i := 1122) (by decide +kernel)⟩
theorem lw_p67 : lw_okq (⟨"YearBasketsModel", "thirdLaw", "(IIIII)I"⟩, 40) := ⟨⟨by decide +kernel, by decide +kernel⟩, List.mem_of_getElem? (i := 764) (by decide +kernel), List.mem_of_getElem? (i := 1125) (by decide +kernel), List.mem_of_getElem? (i := 1126) (by decide +kernel)⟩
theorem lw_p68 : lw_okq (⟨"YearBasketsModel", "alikeKept", "(I)I"⟩, 40) := ⟨⟨by decide +kernel, by decide +kernel⟩, List.mem_of_getElem? (i := 764) (by decide +kernel), List.mem_of_getElem? (i := 1129) (by decide +kernel), List.mem_of_getElem? (i := 1130) (by decide +kernel)⟩
theorem lw_p69 : lw_okq (⟨"YearBasketsModel", "twiceLaw", "(IIII)I"⟩, 40) := ⟨⟨by decide +kernel, by decide +kernel⟩, List.mem_of_getElem? (i := 764) (by decide +kernel), List.mem_of_getElem? (i := 1133) (by decide +kernel), List.mem_of_getElem? (i := 1134) (by decide +kernel)⟩
theorem lw_p70 : lw_okq (⟨"YearBasketsModel", "unitsLaw", "(IIIII)I"⟩, 40) := ⟨⟨by decide +kernel, by decide +kernel⟩, List.mem_of_getElem? (i := 764) (by decide +kernel), List.mem_of_getElem? (i := 1137) (by decide +kernel), List.mem_of_getElem? (i := 1138) (by decide +kernel)⟩
theorem lw_p71 : lw_okq (⟨"YearBasketsModel", "upLaw", "(IIIII)I"⟩, 40) := ⟨⟨by decide +kernel, by decide +kernel⟩, List.mem_of_getElem? (i := 764) (by decide +kernel), List.mem_of_getElem? (i := 1141) (by decide +kernel), List.mem_of_getElem? (i := 1142) (by decide +kernel)⟩
theorem lw_p72 : lw_okq (⟨"YearBasketsModel", "betweenLaw", "(IIII)I"⟩, 40) := ⟨⟨by decide +kernel, by decide +kernel⟩, List.mem_of_getElem? (i := 764) (by decide +kernel), List.mem_of_getElem? (i := 1145) (by decide +kernel), List.mem_of_getElem? (i := 1146) (by decide +kernel)⟩
theorem lw_p73 : lw_okq (⟨"YearBasketsModel", "chosenAhead", "(III)I"⟩, 40) := ⟨⟨by decide +kernel, by decide +kernel⟩, List.mem_of_getElem? (i := 764) (by decide +kernel), List.mem_of_getElem? (i := 1168) (by decide +kernel), List.mem_of_getElem? (i := 1169) (by decide +kernel)⟩
theorem lw_p74 : lw_okq (⟨"YearBasketsModel", "findWalks", "(I)V"⟩, 40) := ⟨⟨by decide +kernel, by decide +kernel⟩, List.mem_of_getElem? (i := 764) (by decide +kernel), List.mem_of_getElem? (i := 1176) (by decide +kernel), List.mem_of_getElem? (i := 1177) (by decide +kernel)⟩
def lw_privs_5 : List (MethodName × Nat) := [(⟨"YearBasketsModel", "isOneKept", "(I)I"⟩, 40), (⟨"YearBasketsModel", "backLaw", "(IIII)I"⟩, 40), (⟨"YearBasketsModel", "product", "(II)I"⟩, 40), (⟨"YearBasketsModel", "thirdLaw", "(IIIII)I"⟩, 40), (⟨"YearBasketsModel", "alikeKept", "(I)I"⟩, 40), (⟨"YearBasketsModel", "twiceLaw", "(IIII)I"⟩, 40), (⟨"YearBasketsModel", "unitsLaw", "(IIIII)I"⟩, 40), (⟨"YearBasketsModel", "upLaw", "(IIIII)I"⟩, 40), (⟨"YearBasketsModel", "betweenLaw", "(IIII)I"⟩, 40), (⟨"YearBasketsModel", "chosenAhead", "(III)I"⟩, 40), (⟨"YearBasketsModel", "findWalks", "(I)V"⟩, 40)]
theorem lw_r5 : ∀ q ∈ lw_privs_5, lw_okq q := List.forall_mem_cons.mpr ⟨lw_p64, List.forall_mem_cons.mpr ⟨lw_p65, List.forall_mem_cons.mpr ⟨lw_p66, List.forall_mem_cons.mpr ⟨lw_p67, List.forall_mem_cons.mpr ⟨lw_p68, List.forall_mem_cons.mpr ⟨lw_p69, List.forall_mem_cons.mpr ⟨lw_p70, List.forall_mem_cons.mpr ⟨lw_p71, List.forall_mem_cons.mpr ⟨lw_p72, List.forall_mem_cons.mpr ⟨lw_p73, List.forall_mem_cons.mpr ⟨lw_p74, fun _ h => absurd h List.not_mem_nil⟩⟩⟩⟩⟩⟩⟩⟩⟩⟩⟩
def lw_privs : List (MethodName × Nat) := lw_privs_1 ++ (lw_privs_2 ++ (lw_privs_3 ++ (lw_privs_4 ++ (lw_privs_5))))
def lw_tbl : List Cond := k2_sels lw_privs ++ tables_1
theorem lw_privs_ok : ∀ q ∈ lw_privs, lw_okq q := by
  show ∀ q ∈ lw_privs_1 ++ (lw_privs_2 ++ (lw_privs_3 ++ (lw_privs_4 ++ (lw_privs_5)))), lw_okq q
  exact List.forall_mem_append.mpr ⟨lw_r1, List.forall_mem_append.mpr ⟨lw_r2, List.forall_mem_append.mpr ⟨lw_r3, List.forall_mem_append.mpr ⟨lw_r4, lw_r5⟩⟩⟩⟩

/-! ===== the classes: fields in the order of the slots ===== -/
def zRB : String := "YearBaskets$Books"
def zTB : u_T := fun k => match k with
  | 0 => ("YearBaskets$Books", "prices", "[I", true)
  | _ => ("YearBaskets$Books", "amounts", "[I", true)
def zYB : Nat → FieldType := fun k => match k with
  | 0 => .array .int
  | _ => .array .int
theorem zYB_ok : ∀ k, k < 2 → parseFieldDescriptor (zTB k).2.2.1 = some (zYB k) := by decide +kernel
theorem zNB_ok : ∀ a, a < 2 → ∀ b, b < 2 → a ≠ b → (zTB a).2.1 ≠ (zTB b).2.1 := by decide +kernel
def zRF : String := "YearBaskets$Fraction"
def zTF : u_T := fun k => match k with
  | 0 => ("YearBaskets$Fraction", "upper", "J", false)
  | 1 => ("YearBaskets$Fraction", "lower", "J", false)
  | 2 => ("YearBaskets$Fraction", "root", "Z", false)
  | _ => ("YearBaskets$Fraction", "refusal", "I", false)
def zYF : Nat → FieldType := fun k => match k with
  | 0 => .long
  | 1 => .long
  | 2 => .boolean
  | _ => .int
theorem zYF_ok : ∀ k, k < 4 → parseFieldDescriptor (zTF k).2.2.1 = some (zYF k) := by decide +kernel
theorem zNF_ok : ∀ a, a < 4 → ∀ b, b < 4 → a ≠ b → (zTF a).2.1 ≠ (zTF b).2.1 := by decide +kernel
def zRL : String := "YearBaskets$Laws"
def zTL : u_T := fun k => match k with
  | 0 => ("YearBaskets$Laws", "books", "LYearBaskets$Books;", true)
  | 1 => ("YearBaskets$Laws", "tried", "LYearBaskets$Books;", true)
  | 2 => ("YearBaskets$Laws", "teller", "LYearBaskets$Teller;", true)
  | 3 => ("YearBaskets$Laws", "uppers", "[J", true)
  | 4 => ("YearBaskets$Laws", "lowers", "[J", true)
  | 5 => ("YearBaskets$Laws", "kinds", "[I", true)
  | 6 => ("YearBaskets$Laws", "found", "[I", true)
  | 7 => ("YearBaskets$Laws", "kept", "[I", true)
  | 8 => ("YearBaskets$Laws", "left", "LYearBaskets$Fraction;", true)
  | 9 => ("YearBaskets$Laws", "right", "LYearBaskets$Fraction;", true)
  | 10 => ("YearBaskets$Laws", "plan", "LYearBaskets$Plan;", false)
  | 11 => ("YearBaskets$Laws", "who", "I", false)
  | _ => ("YearBaskets$Laws", "told", "I", false)
def zYL : Nat → FieldType := fun k => match k with
  | 0 => .object "YearBaskets$Books"
  | 1 => .object "YearBaskets$Books"
  | 2 => .object "YearBaskets$Teller"
  | 3 => .array .long
  | 4 => .array .long
  | 5 => .array .int
  | 6 => .array .int
  | 7 => .array .int
  | 8 => .object "YearBaskets$Fraction"
  | 9 => .object "YearBaskets$Fraction"
  | 10 => .object "YearBaskets$Plan"
  | 11 => .int
  | _ => .int
theorem zYL_ok : ∀ k, k < 13 → parseFieldDescriptor (zTL k).2.2.1 = some (zYL k) := by decide +kernel
theorem zNL_ok : ∀ a, a < 13 → ∀ b, b < 13 → a ≠ b → (zTL a).2.1 ≠ (zTL b).2.1 := by decide +kernel
def zRK : String := "YearBaskets$Likes"
def zTK : u_T := fun k => match k with
  | 0 => ("YearBaskets$Likes", "books", "LYearBaskets$Books;", true)
  | 1 => ("YearBaskets$Likes", "choices", "[I", true)
  | 2 => ("YearBaskets$Likes", "row", "[I", true)
  | _ => ("YearBaskets$Likes", "asGood", "[Z", true)
def zYK : Nat → FieldType := fun k => match k with
  | 0 => .object "YearBaskets$Books"
  | 1 => .array .int
  | 2 => .array .int
  | _ => .array .boolean
theorem zYK_ok : ∀ k, k < 4 → parseFieldDescriptor (zTK k).2.2.1 = some (zYK k) := by decide +kernel
theorem zNK_ok : ∀ a, a < 4 → ∀ b, b < 4 → a ≠ b → (zTK a).2.1 ≠ (zTK b).2.1 := by decide +kernel
def zRP : String := "YearBaskets$Plan"
def zTP : u_T := fun k => match k with
  | 0 => ("YearBaskets$Plan", "words", "[I", true)
  | 1 => ("YearBaskets$Plan", "marks", "[I", true)
  | _ => ("YearBaskets$Plan", "size", "I", false)
def zYP : Nat → FieldType := fun k => match k with
  | 0 => .array .int
  | 1 => .array .int
  | _ => .int
theorem zYP_ok : ∀ k, k < 3 → parseFieldDescriptor (zTP k).2.2.1 = some (zYP k) := by decide +kernel
theorem zNP_ok : ∀ a, a < 3 → ∀ b, b < 3 → a ≠ b → (zTP a).2.1 ≠ (zTP b).2.1 := by decide +kernel
def zRR : String := "YearBaskets$Reader"
def zTR : u_T := fun k => match k with
  | 0 => ("YearBaskets$Reader", "bytes", "[I", true)
  | 1 => ("YearBaskets$Reader", "length", "I", false)
  | 2 => ("YearBaskets$Reader", "place", "I", false)
  | 3 => ("YearBaskets$Reader", "faultKind", "I", false)
  | 4 => ("YearBaskets$Reader", "faultPlace", "I", false)
  | _ => ("YearBaskets$Reader", "plan", "LYearBaskets$Plan;", false)
def zYR : Nat → FieldType := fun k => match k with
  | 0 => .array .int
  | 1 => .int
  | 2 => .int
  | 3 => .int
  | 4 => .int
  | _ => .object "YearBaskets$Plan"
theorem zYR_ok : ∀ k, k < 6 → parseFieldDescriptor (zTR k).2.2.1 = some (zYR k) := by decide +kernel
theorem zNR_ok : ∀ a, a < 6 → ∀ b, b < 6 → a ≠ b → (zTR a).2.1 ≠ (zTR b).2.1 := by decide +kernel
def zRT : String := "YearBaskets$Teller"
def zTT : u_T := fun k => match k with
  | 0 => ("YearBaskets$Teller", "spares", "[LYearBaskets$Fraction;", true)
  | 1 => ("YearBaskets$Teller", "books", "LYearBaskets$Books;", false)
  | 2 => ("YearBaskets$Teller", "plan", "LYearBaskets$Plan;", false)
  | _ => ("YearBaskets$Teller", "who", "I", false)
def zYT : Nat → FieldType := fun k => match k with
  | 0 => .array (.object "YearBaskets$Fraction")
  | 1 => .object "YearBaskets$Books"
  | 2 => .object "YearBaskets$Plan"
  | _ => .int
theorem zYT_ok : ∀ k, k < 4 → parseFieldDescriptor (zTT k).2.2.1 = some (zYT k) := by decide +kernel
theorem zNT_ok : ∀ a, a < 4 → ∀ b, b < 4 → a ≠ b → (zTT a).2.1 ≠ (zTT b).2.1 := by decide +kernel
def zRY : String := "YearBaskets"
def zTY : u_T := fun k => match k with
  | 0 => ("YearBaskets", "books", "LYearBaskets$Books;", true)
  | 1 => ("YearBaskets", "tried", "LYearBaskets$Books;", true)
  | 2 => ("YearBaskets", "plans", "[LYearBaskets$Plan;", true)
  | 3 => ("YearBaskets", "reader", "LYearBaskets$Reader;", true)
  | 4 => ("YearBaskets", "teller", "LYearBaskets$Teller;", true)
  | 5 => ("YearBaskets", "laws", "LYearBaskets$Laws;", true)
  | 6 => ("YearBaskets", "likes", "LYearBaskets$Likes;", true)
  | 7 => ("YearBaskets", "first", "LYearBaskets$Fraction;", true)
  | 8 => ("YearBaskets", "second", "LYearBaskets$Fraction;", true)
  | 9 => ("YearBaskets", "made", "I", false)
  | _ => ("YearBaskets", "latestFault", "I", false)
def zYY : Nat → FieldType := fun k => match k with
  | 0 => .object "YearBaskets$Books"
  | 1 => .object "YearBaskets$Books"
  | 2 => .array (.object "YearBaskets$Plan")
  | 3 => .object "YearBaskets$Reader"
  | 4 => .object "YearBaskets$Teller"
  | 5 => .object "YearBaskets$Laws"
  | 6 => .object "YearBaskets$Likes"
  | 7 => .object "YearBaskets$Fraction"
  | 8 => .object "YearBaskets$Fraction"
  | 9 => .int
  | _ => .int
theorem zYY_ok : ∀ k, k < 11 → parseFieldDescriptor (zTY k).2.2.1 = some (zYY k) := by decide +kernel
theorem zNY_ok : ∀ a, a < 11 → ∀ b, b < 11 → a ≠ b → (zTY a).2.1 ≠ (zTY b).2.1 := by decide +kernel
def zRM : String := "YearBasketsModel"
def zTM : u_T := fun k => match k with
  | 0 => ("YearBasketsModel", "prices", "[I", true)
  | 1 => ("YearBasketsModel", "buys", "[I", true)
  | 2 => ("YearBasketsModel", "numbers", "I", false)
  | 3 => ("YearBasketsModel", "kinds", "[I", true)
  | 4 => ("YearBasketsModel", "marks", "[I", true)
  | 5 => ("YearBasketsModel", "text", "[I", true)
  | 6 => ("YearBasketsModel", "texted", "I", false)
  | 7 => ("YearBasketsModel", "faultPlace", "I", false)
  | 8 => ("YearBasketsModel", "at0", "I", false)
  | 9 => ("YearBasketsModel", "wordEnd", "I", false)
  | 10 => ("YearBasketsModel", "open", "[I", true)
  | 11 => ("YearBasketsModel", "isSecond", "[Z", true)
  | 12 => ("YearBasketsModel", "opened", "I", false)
  | 13 => ("YearBasketsModel", "nodes", "I", false)
  | 14 => ("YearBasketsModel", "up", "J", false)
  | 15 => ("YearBasketsModel", "low", "J", false)
  | 16 => ("YearBasketsModel", "isRoot", "Z", false)
  | 17 => ("YearBasketsModel", "ordered", "I", false)
  | 18 => ("YearBasketsModel", "node", "[I", true)
  | 19 => ("YearBasketsModel", "fromYear", "[I", true)
  | 20 => ("YearBasketsModel", "toYear", "[I", true)
  | 21 => ("YearBasketsModel", "goodsOf", "[I", true)
  | 22 => ("YearBasketsModel", "step", "[I", true)
  | 23 => ("YearBasketsModel", "hasUp", "[J", true)
  | 24 => ("YearBasketsModel", "hasLow", "[J", true)
  | 25 => ("YearBasketsModel", "hasRoot", "[Z", true)
  | 26 => ("YearBasketsModel", "frames", "I", false)
  | 27 => ("YearBasketsModel", "isDone", "Z", false)
  | 28 => ("YearBasketsModel", "keptUp", "[J", true)
  | 29 => ("YearBasketsModel", "keptLow", "[J", true)
  | 30 => ("YearBasketsModel", "keptRoot", "[Z", true)
  | 31 => ("YearBasketsModel", "wasPrices", "[I", true)
  | 32 => ("YearBasketsModel", "wasBuys", "[I", true)
  | 33 => ("YearBasketsModel", "breachA", "I", false)
  | 34 => ("YearBasketsModel", "breachB", "I", false)
  | 35 => ("YearBasketsModel", "breachC", "I", false)
  | 36 => ("YearBasketsModel", "kept", "[I", true)
  | 37 => ("YearBasketsModel", "comes", "[Z", true)
  | 38 => ("YearBasketsModel", "comesSure", "[Z", true)
  | _ => ("YearBasketsModel", "edge", "[I", true)
def zYM : Nat → FieldType := fun k => match k with
  | 0 => .array .int
  | 1 => .array .int
  | 2 => .int
  | 3 => .array .int
  | 4 => .array .int
  | 5 => .array .int
  | 6 => .int
  | 7 => .int
  | 8 => .int
  | 9 => .int
  | 10 => .array .int
  | 11 => .array .boolean
  | 12 => .int
  | 13 => .int
  | 14 => .long
  | 15 => .long
  | 16 => .boolean
  | 17 => .int
  | 18 => .array .int
  | 19 => .array .int
  | 20 => .array .int
  | 21 => .array .int
  | 22 => .array .int
  | 23 => .array .long
  | 24 => .array .long
  | 25 => .array .boolean
  | 26 => .int
  | 27 => .boolean
  | 28 => .array .long
  | 29 => .array .long
  | 30 => .array .boolean
  | 31 => .array .int
  | 32 => .array .int
  | 33 => .int
  | 34 => .int
  | 35 => .int
  | 36 => .array .int
  | 37 => .array .boolean
  | 38 => .array .boolean
  | _ => .array .int
theorem zYM_ok : ∀ k, k < 40 → parseFieldDescriptor (zTM k).2.2.1 = some (zYM k) := by decide +kernel
theorem zNM_ok : ∀ a, a < 40 → ∀ b, b < 40 → a ≠ b → (zTM a).2.1 ≠ (zTM b).2.1 := by decide +kernel
def zcl : List vw_C := [(zRB, zTB, 2), (zRF, zTF, 4), (zRL, zTL, 13), (zRK, zTK, 4), (zRP, zTP, 3), (zRR, zTR, 6), (zRT, zTT, 4), (zRY, zTY, 11), (zRM, zTM, 40)]
/-! ===== the words that stay ===== -/
def zG : List Cond := lw_tbl.filter goodWord
theorem zG_t {w : Cond} (h : w ∈ tables_1) (hg : goodWord w = true) : w ∈ zG := List.mem_filter.mpr ⟨List.mem_append_right _ h, hg⟩
theorem zG_s {w : Cond} (h : w ∈ k2_sels lw_privs) (hg : goodWord w = true) : w ∈ zG := List.mem_filter.mpr ⟨List.mem_append_left _ h, hg⟩
theorem zG_lw {w : Cond} (h : w ∈ zG) : w ∈ lw_tbl := (List.mem_filter.mp h).1
theorem zG_good {w : Cond} (h : w ∈ zG) : goodWord w = true := (List.mem_filter.mp h).2
/-! ===== links between nest mates: kept in another way ===== -/
def zNw : List Cond := [(Jvm.Cond.methodLinkNest "YearBaskets" (9 : Nat) ({ cls := "YearBaskets$Books", name := "<init>", desc := "()V" } : Jvm.MethodName) "YearBaskets"),
  (Jvm.Cond.methodLinkNest "YearBaskets" (25 : Nat) ({ cls := "YearBaskets$Plan", name := "<init>", desc := "()V" } : Jvm.MethodName) "YearBaskets"),
  (Jvm.Cond.fieldLinkNest "YearBaskets$Reader" (32 : Nat) "YearBaskets$Plan" "size" "I" "YearBaskets"),
  (Jvm.Cond.methodLinkNest "YearBaskets" (28 : Nat) ({ cls := "YearBaskets$Reader", name := "<init>", desc := "()V" } : Jvm.MethodName) "YearBaskets"),
  (Jvm.Cond.fieldLinkNest "YearBaskets" (119 : Nat) "YearBaskets$Reader" "length" "I" "YearBaskets"),
  (Jvm.Cond.fieldLinkNest "YearBaskets" (141 : Nat) "YearBaskets$Reader" "faultKind" "I" "YearBaskets"),
  (Jvm.Cond.fieldLinkNest "YearBaskets" (144 : Nat) "YearBaskets$Reader" "faultPlace" "I" "YearBaskets"),
  (Jvm.Cond.methodLinkNest "YearBaskets$Teller" (29 : Nat) ({ cls := "YearBaskets$Fraction", name := "<init>", desc := "()V" } : Jvm.MethodName) "YearBaskets"),
  (Jvm.Cond.fieldLinkNest "YearBaskets$Laws" (79 : Nat) "YearBaskets$Fraction" "upper" "J" "YearBaskets"),
  (Jvm.Cond.fieldLinkNest "YearBaskets$Teller" (102 : Nat) "YearBaskets$Fraction" "upper" "J" "YearBaskets"),
  (Jvm.Cond.fieldLinkNest "YearBaskets" (169 : Nat) "YearBaskets$Fraction" "upper" "J" "YearBaskets"),
  (Jvm.Cond.fieldLinkNest "YearBaskets$Laws" (83 : Nat) "YearBaskets$Fraction" "lower" "J" "YearBaskets"),
  (Jvm.Cond.fieldLinkNest "YearBaskets$Teller" (106 : Nat) "YearBaskets$Fraction" "lower" "J" "YearBaskets"),
  (Jvm.Cond.fieldLinkNest "YearBaskets" (173 : Nat) "YearBaskets$Fraction" "lower" "J" "YearBaskets"),
  (Jvm.Cond.fieldLinkNest "YearBaskets$Laws" (89 : Nat) "YearBaskets$Fraction" "root" "Z" "YearBaskets"),
  (Jvm.Cond.fieldLinkNest "YearBaskets$Teller" (121 : Nat) "YearBaskets$Fraction" "root" "Z" "YearBaskets"),
  (Jvm.Cond.fieldLinkNest "YearBaskets" (165 : Nat) "YearBaskets$Fraction" "root" "Z" "YearBaskets"),
  (Jvm.Cond.fieldLinkNest "YearBaskets$Laws" (86 : Nat) "YearBaskets$Fraction" "refusal" "I" "YearBaskets"),
  (Jvm.Cond.fieldLinkNest "YearBaskets$Teller" (99 : Nat) "YearBaskets$Fraction" "refusal" "I" "YearBaskets"),
  (Jvm.Cond.fieldLinkNest "YearBaskets" (162 : Nat) "YearBaskets$Fraction" "refusal" "I" "YearBaskets"),
  (Jvm.Cond.methodLinkNest "YearBaskets$Laws" (30 : Nat) ({ cls := "YearBaskets$Fraction", name := "<init>", desc := "()V" } : Jvm.MethodName) "YearBaskets"),
  (Jvm.Cond.methodLinkNest "YearBaskets" (60 : Nat) ({ cls := "YearBaskets$Fraction", name := "<init>", desc := "()V" } : Jvm.MethodName) "YearBaskets"),
  (Jvm.Cond.methodLinkNest "YearBaskets$Reader" (75 : Nat) ({ cls := "YearBaskets", name := "isNoYear", desc := "(I)Z" } : Jvm.MethodName) "YearBaskets"),
  (Jvm.Cond.methodLinkNest "YearBaskets$Laws" (93 : Nat) ({ cls := "YearBaskets", name := "isNoYear", desc := "(I)Z" } : Jvm.MethodName) "YearBaskets"),
  (Jvm.Cond.methodLinkNest "YearBaskets$Likes" (36 : Nat) ({ cls := "YearBaskets", name := "isNoYear", desc := "(I)Z" } : Jvm.MethodName) "YearBaskets")]
def zisN : Cond → Bool
  | .fieldLinkNest .. => true
  | .methodLinkNest .. => true
  | _ => false
theorem zNw_all : zNw.all zisN = true := rfl
theorem zNw_t : ∀ w ∈ zNw, w ∈ tables_1 := by decide +kernel
theorem zNw_warm {w : Cond} (hw : w ∈ zNw) {s U : State} (hW : s.WarmedH U.vm) (h : va_Nw w s) : va_Nw w U := by
  have h1 := (List.all_eq_true.mp zNw_all) w hw
  cases w <;> first | exact va_Nw.warmF hW h | exact va_Nw.warmM hW h | (simp [zisN] at h1; done)
theorem zNw_tab {w : Cond} (hw : w ∈ zNw) : w.onTables = true := by
  have h1 := (List.all_eq_true.mp zNw_all) w hw
  cases w <;> first | rfl | (simp [zisN] at h1; done)
/-! ===== String constants, by their places ===== -/
def zsI : List Nat := [95, 97, 99, 101, 103, 105, 107, 109, 111, 113, 115, 117, 119]
def zsX : List String := ["old", "new", "mid", "at", "plain", "sums", "root", "mean", "least", "most", "back", "link", "both"]
def zsL : List Nat := [3, 3, 3, 2, 5, 4, 4, 4, 5, 4, 4, 4, 4]
def zsB : List (List Int32) := [[111, 108, 100], [110, 101, 119], [109, 105, 100], [97, 116], [112, 108, 97, 105, 110], [115, 117, 109, 115], [114, 111, 111, 116], [109, 101, 97, 110], [108, 101, 97, 115, 116], [109, 111, 115, 116], [98, 97, 99, 107], [108, 105, 110, 107], [98, 111, 116, 104]]
theorem zt_1 {w : Cond} (h : w ∈ tables_1_1) (hg : goodWord w = true) : w ∈ zG := zG_t (List.mem_append_left _ h) hg
theorem zt_2 {w : Cond} (h : w ∈ tables_1_2) (hg : goodWord w = true) : w ∈ zG := zG_t (List.mem_append_right _ (List.mem_append_left _ h)) hg
theorem zt_3 {w : Cond} (h : w ∈ tables_1_3) (hg : goodWord w = true) : w ∈ zG := zG_t (List.mem_append_right _ (List.mem_append_right _ (List.mem_append_left _ h))) hg
theorem zt_4 {w : Cond} (h : w ∈ tables_1_4) (hg : goodWord w = true) : w ∈ zG := zG_t (List.mem_append_right _ (List.mem_append_right _ (List.mem_append_right _ (List.mem_append_left _ h)))) hg
theorem zt_5 {w : Cond} (h : w ∈ tables_1_5) (hg : goodWord w = true) : w ∈ zG := zG_t (List.mem_append_right _ (List.mem_append_right _ (List.mem_append_right _ (List.mem_append_right _ (List.mem_append_left _ h))))) hg
theorem zt_6 {w : Cond} (h : w ∈ tables_1_6) (hg : goodWord w = true) : w ∈ zG := zG_t (List.mem_append_right _ (List.mem_append_right _ (List.mem_append_right _ (List.mem_append_right _ (List.mem_append_right _ (h)))))) hg
theorem zinB : ∀ w ∈ u_ws zRB zTB 2, w ∈ zG := by
  have h : ∀ w ∈ u_ws zRB zTB 2, w ∈ tables_1 := by decide +kernel
  intro w hw
  refine zG_t (h w hw) ?_
  exact (List.all_eq_true.mp (by decide +kernel : (u_ws zRB zTB 2).all goodWord = true)) w hw
theorem zinF : ∀ w ∈ u_ws zRF zTF 4, w ∈ zG := by
  have h : ∀ w ∈ u_ws zRF zTF 4, w ∈ tables_1 := by decide +kernel
  intro w hw
  refine zG_t (h w hw) ?_
  exact (List.all_eq_true.mp (by decide +kernel : (u_ws zRF zTF 4).all goodWord = true)) w hw
theorem zinL : ∀ w ∈ u_ws zRL zTL 13, w ∈ zG := by
  have h : ∀ w ∈ u_ws zRL zTL 13, w ∈ tables_1 := by decide +kernel
  intro w hw
  refine zG_t (h w hw) ?_
  exact (List.all_eq_true.mp (by decide +kernel : (u_ws zRL zTL 13).all goodWord = true)) w hw
theorem zinK : ∀ w ∈ u_ws zRK zTK 4, w ∈ zG := by
  have h : ∀ w ∈ u_ws zRK zTK 4, w ∈ tables_1 := by decide +kernel
  intro w hw
  refine zG_t (h w hw) ?_
  exact (List.all_eq_true.mp (by decide +kernel : (u_ws zRK zTK 4).all goodWord = true)) w hw
theorem zinP : ∀ w ∈ u_ws zRP zTP 3, w ∈ zG := by
  have h : ∀ w ∈ u_ws zRP zTP 3, w ∈ tables_1 := by decide +kernel
  intro w hw
  refine zG_t (h w hw) ?_
  exact (List.all_eq_true.mp (by decide +kernel : (u_ws zRP zTP 3).all goodWord = true)) w hw
theorem zinR : ∀ w ∈ u_ws zRR zTR 6, w ∈ zG := by
  have h : ∀ w ∈ u_ws zRR zTR 6, w ∈ tables_1 := by decide +kernel
  intro w hw
  refine zG_t (h w hw) ?_
  exact (List.all_eq_true.mp (by decide +kernel : (u_ws zRR zTR 6).all goodWord = true)) w hw
theorem zinT : ∀ w ∈ u_ws zRT zTT 4, w ∈ zG := by
  have h : ∀ w ∈ u_ws zRT zTT 4, w ∈ tables_1 := by decide +kernel
  intro w hw
  refine zG_t (h w hw) ?_
  exact (List.all_eq_true.mp (by decide +kernel : (u_ws zRT zTT 4).all goodWord = true)) w hw
theorem zinY : ∀ w ∈ u_ws zRY zTY 11, w ∈ zG := by
  have h : ∀ w ∈ u_ws zRY zTY 11, w ∈ tables_1 := by decide +kernel
  intro w hw
  refine zG_t (h w hw) ?_
  exact (List.all_eq_true.mp (by decide +kernel : (u_ws zRY zTY 11).all goodWord = true)) w hw
theorem zinM : ∀ w ∈ u_ws zRM zTM 40, w ∈ zG := by
  have h : ∀ w ∈ u_ws zRM zTM 40, w ∈ tables_1 := by decide +kernel
  intro w hw
  refine zG_t (h w hw) ?_
  exact (List.all_eq_true.mp (by decide +kernel : (u_ws zRM zTM 40).all goodWord = true)) w hw
