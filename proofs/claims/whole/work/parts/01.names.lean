-- ===== PART A: goes FIRST, ahead of the names: the tables' words, and 'selects' of the private methods out of them =====
/-- a private method of a class that the tables say can be made, by its rows of tables_1 -/
def lw_okq (q : MethodName × Nat) : Prop := (q.1.cls ≠ "java/lang/invoke/MethodHandle" ∧ q.1.cls ≠ "java/lang/invoke/VarHandle") ∧ Cond.instantiable q.1.cls q.2 ∈ tables_1 ∧ Cond.privateMethod q.1 ∈ tables_1 ∧ Cond.instanceMethod q.1 ∈ tables_1
theorem lw_p0 : lw_okq (⟨"PaperRound", "found", "(I)I"⟩, 14) := ⟨⟨by decide +kernel, by decide +kernel⟩, List.mem_of_getElem? (i := 13) (by decide +kernel), List.mem_of_getElem? (i := 349) (by decide +kernel), List.mem_of_getElem? (i := 350) (by decide +kernel)⟩
theorem lw_p1 : lw_okq (⟨"PaperRound$HouseText", "look", "()I"⟩, 7) := ⟨⟨by decide +kernel, by decide +kernel⟩, List.mem_of_getElem? (i := 39) (by decide +kernel), List.mem_of_getElem? (i := 413) (by decide +kernel), List.mem_of_getElem? (i := 414) (by decide +kernel)⟩
theorem lw_p2 : lw_okq (⟨"PaperRound$HouseText", "takeSign", "(C)Z"⟩, 7) := ⟨⟨by decide +kernel, by decide +kernel⟩, List.mem_of_getElem? (i := 39) (by decide +kernel), List.mem_of_getElem? (i := 417) (by decide +kernel), List.mem_of_getElem? (i := 418) (by decide +kernel)⟩
theorem lw_p3 : lw_okq (⟨"PaperRound$HouseText", "takeLast", "()Z"⟩, 7) := ⟨⟨by decide +kernel, by decide +kernel⟩, List.mem_of_getElem? (i := 39) (by decide +kernel), List.mem_of_getElem? (i := 421) (by decide +kernel), List.mem_of_getElem? (i := 422) (by decide +kernel)⟩
theorem lw_p4 : lw_okq (⟨"PaperRound$HouseText", "takeMinute", "(II)Z"⟩, 7) := ⟨⟨by decide +kernel, by decide +kernel⟩, List.mem_of_getElem? (i := 39) (by decide +kernel), List.mem_of_getElem? (i := 425) (by decide +kernel), List.mem_of_getElem? (i := 426) (by decide +kernel)⟩
theorem lw_p5 : lw_okq (⟨"PaperRound$HouseText", "figure", "()I"⟩, 7) := ⟨⟨by decide +kernel, by decide +kernel⟩, List.mem_of_getElem? (i := 39) (by decide +kernel), List.mem_of_getElem? (i := 429) (by decide +kernel), List.mem_of_getElem? (i := 430) (by decide +kernel)⟩
theorem lw_p6 : lw_okq (⟨"PaperRound$HouseText", "takePart", "()Z"⟩, 7) := ⟨⟨by decide +kernel, by decide +kernel⟩, List.mem_of_getElem? (i := 39) (by decide +kernel), List.mem_of_getElem? (i := 433) (by decide +kernel), List.mem_of_getElem? (i := 434) (by decide +kernel)⟩
theorem lw_p7 : lw_okq (⟨"PaperRound$HouseText", "takeFigure", "(II)Z"⟩, 7) := ⟨⟨by decide +kernel, by decide +kernel⟩, List.mem_of_getElem? (i := 39) (by decide +kernel), List.mem_of_getElem? (i := 437) (by decide +kernel), List.mem_of_getElem? (i := 438) (by decide +kernel)⟩
theorem lw_p8 : lw_okq (⟨"PaperRound$HouseText", "takeReader", "()Z"⟩, 7) := ⟨⟨by decide +kernel, by decide +kernel⟩, List.mem_of_getElem? (i := 39) (by decide +kernel), List.mem_of_getElem? (i := 445) (by decide +kernel), List.mem_of_getElem? (i := 446) (by decide +kernel)⟩
theorem lw_p9 : lw_okq (⟨"PaperRound$HouseText", "takeWant", "()Z"⟩, 7) := ⟨⟨by decide +kernel, by decide +kernel⟩, List.mem_of_getElem? (i := 39) (by decide +kernel), List.mem_of_getElem? (i := 453) (by decide +kernel), List.mem_of_getElem? (i := 454) (by decide +kernel)⟩
theorem lw_p10 : lw_okq (⟨"PaperRound$HouseText", "takeNot", "()Z"⟩, 7) := ⟨⟨by decide +kernel, by decide +kernel⟩, List.mem_of_getElem? (i := 39) (by decide +kernel), List.mem_of_getElem? (i := 469) (by decide +kernel), List.mem_of_getElem? (i := 470) (by decide +kernel)⟩
theorem lw_p11 : lw_okq (⟨"PaperRound$HouseText", "takeCushion", "()Z"⟩, 7) := ⟨⟨by decide +kernel, by decide +kernel⟩, List.mem_of_getElem? (i := 39) (by decide +kernel), List.mem_of_getElem? (i := 478) (by decide +kernel), List.mem_of_getElem? (i := 479) (by decide +kernel)⟩
theorem lw_p12 : lw_okq (⟨"PaperRound", "ofWant", "(II)I"⟩, 14) := ⟨⟨by decide +kernel, by decide +kernel⟩, List.mem_of_getElem? (i := 13) (by decide +kernel), List.mem_of_getElem? (i := 523) (by decide +kernel), List.mem_of_getElem? (i := 524) (by decide +kernel)⟩
theorem lw_p13 : lw_okq (⟨"PaperRound$Plan", "firstWrongOf", "(LPaperRound$House;I)I"⟩, 1) := ⟨⟨by decide +kernel, by decide +kernel⟩, List.mem_of_getElem? (i := 67) (by decide +kernel), List.mem_of_getElem? (i := 558) (by decide +kernel), List.mem_of_getElem? (i := 559) (by decide +kernel)⟩
theorem lw_p14 : lw_okq (⟨"PaperRound$Plan", "isCrowded", "(LPaperRound$House;I)Z"⟩, 1) := ⟨⟨by decide +kernel, by decide +kernel⟩, List.mem_of_getElem? (i := 67) (by decide +kernel), List.mem_of_getElem? (i := 562) (by decide +kernel), List.mem_of_getElem? (i := 563) (by decide +kernel)⟩
theorem lw_p15 : lw_okq (⟨"PaperRound$Plan", "isInOrder", "(LPaperRound$House;I)Z"⟩, 1) := ⟨⟨by decide +kernel, by decide +kernel⟩, List.mem_of_getElem? (i := 67) (by decide +kernel), List.mem_of_getElem? (i := 570) (by decide +kernel), List.mem_of_getElem? (i := 571) (by decide +kernel)⟩
def lw_privs_1 : List (MethodName × Nat) := [(⟨"PaperRound", "found", "(I)I"⟩, 14), (⟨"PaperRound$HouseText", "look", "()I"⟩, 7), (⟨"PaperRound$HouseText", "takeSign", "(C)Z"⟩, 7), (⟨"PaperRound$HouseText", "takeLast", "()Z"⟩, 7), (⟨"PaperRound$HouseText", "takeMinute", "(II)Z"⟩, 7), (⟨"PaperRound$HouseText", "figure", "()I"⟩, 7), (⟨"PaperRound$HouseText", "takePart", "()Z"⟩, 7), (⟨"PaperRound$HouseText", "takeFigure", "(II)Z"⟩, 7), (⟨"PaperRound$HouseText", "takeReader", "()Z"⟩, 7), (⟨"PaperRound$HouseText", "takeWant", "()Z"⟩, 7), (⟨"PaperRound$HouseText", "takeNot", "()Z"⟩, 7), (⟨"PaperRound$HouseText", "takeCushion", "()Z"⟩, 7), (⟨"PaperRound", "ofWant", "(II)I"⟩, 14), (⟨"PaperRound$Plan", "firstWrongOf", "(LPaperRound$House;I)I"⟩, 1), (⟨"PaperRound$Plan", "isCrowded", "(LPaperRound$House;I)Z"⟩, 1), (⟨"PaperRound$Plan", "isInOrder", "(LPaperRound$House;I)Z"⟩, 1)]
theorem lw_r1 : ∀ q ∈ lw_privs_1, lw_okq q := List.forall_mem_cons.mpr ⟨lw_p0, List.forall_mem_cons.mpr ⟨lw_p1, List.forall_mem_cons.mpr ⟨lw_p2, List.forall_mem_cons.mpr ⟨lw_p3, List.forall_mem_cons.mpr ⟨lw_p4, List.forall_mem_cons.mpr ⟨lw_p5, List.forall_mem_cons.mpr ⟨lw_p6, List.forall_mem_cons.mpr ⟨lw_p7, List.forall_mem_cons.mpr ⟨lw_p8, List.forall_mem_cons.mpr ⟨lw_p9, List.forall_mem_cons.mpr ⟨lw_p10, List.forall_mem_cons.mpr ⟨lw_p11, List.forall_mem_cons.mpr ⟨lw_p12, List.forall_mem_cons.mpr ⟨lw_p13, List.forall_mem_cons.mpr ⟨lw_p14, List.forall_mem_cons.mpr ⟨lw_p15, fun _ h => absurd h List.not_mem_nil⟩⟩⟩⟩⟩⟩⟩⟩⟩⟩⟩⟩⟩⟩⟩⟩
theorem lw_p16 : lw_okq (⟨"PaperRound$Plan", "lossBy", "(LPaperRound$House;I)I"⟩, 1) := ⟨⟨by decide +kernel, by decide +kernel⟩, List.mem_of_getElem? (i := 67) (by decide +kernel), List.mem_of_getElem? (i := 601) (by decide +kernel), List.mem_of_getElem? (i := 602) (by decide +kernel)⟩
theorem lw_p17 : lw_okq (⟨"PaperRound", "lackOfCard", "(I)I"⟩, 14) := ⟨⟨by decide +kernel, by decide +kernel⟩, List.mem_of_getElem? (i := 13) (by decide +kernel), List.mem_of_getElem? (i := 639) (by decide +kernel), List.mem_of_getElem? (i := 640) (by decide +kernel)⟩
theorem lw_p18 : lw_okq (⟨"PaperRound$Round", "pick", "(I)I"⟩, 7) := ⟨⟨by decide +kernel, by decide +kernel⟩, List.mem_of_getElem? (i := 97) (by decide +kernel), List.mem_of_getElem? (i := 664) (by decide +kernel), List.mem_of_getElem? (i := 665) (by decide +kernel)⟩
theorem lw_p19 : lw_okq (⟨"PaperRound$Round", "pickNext", "(I)I"⟩, 7) := ⟨⟨by decide +kernel, by decide +kernel⟩, List.mem_of_getElem? (i := 97) (by decide +kernel), List.mem_of_getElem? (i := 668) (by decide +kernel), List.mem_of_getElem? (i := 669) (by decide +kernel)⟩
theorem lw_p20 : lw_okq (⟨"PaperRound$Round", "firstOf", "(II)I"⟩, 7) := ⟨⟨by decide +kernel, by decide +kernel⟩, List.mem_of_getElem? (i := 97) (by decide +kernel), List.mem_of_getElem? (i := 672) (by decide +kernel), List.mem_of_getElem? (i := 673) (by decide +kernel)⟩
theorem lw_p21 : lw_okq (⟨"PaperRound$Round", "isThrough", "(I)Z"⟩, 7) := ⟨⟨by decide +kernel, by decide +kernel⟩, List.mem_of_getElem? (i := 97) (by decide +kernel), List.mem_of_getElem? (i := 677) (by decide +kernel), List.mem_of_getElem? (i := 678) (by decide +kernel)⟩
theorem lw_p22 : lw_okq (⟨"PaperRound$Round", "mayBegin", "(II)Z"⟩, 7) := ⟨⟨by decide +kernel, by decide +kernel⟩, List.mem_of_getElem? (i := 97) (by decide +kernel), List.mem_of_getElem? (i := 681) (by decide +kernel), List.mem_of_getElem? (i := 682) (by decide +kernel)⟩
theorem lw_p23 : lw_okq (⟨"PaperRound$Round", "freeCopy", "(II)I"⟩, 7) := ⟨⟨by decide +kernel, by decide +kernel⟩, List.mem_of_getElem? (i := 97) (by decide +kernel), List.mem_of_getElem? (i := 686) (by decide +kernel), List.mem_of_getElem? (i := 687) (by decide +kernel)⟩
theorem lw_p24 : lw_okq (⟨"PaperRound$Round", "pickDear", "(I)I"⟩, 7) := ⟨⟨by decide +kernel, by decide +kernel⟩, List.mem_of_getElem? (i := 97) (by decide +kernel), List.mem_of_getElem? (i := 692) (by decide +kernel), List.mem_of_getElem? (i := 693) (by decide +kernel)⟩
theorem lw_p25 : lw_okq (⟨"PaperRound$Round", "pickShort", "(I)I"⟩, 7) := ⟨⟨by decide +kernel, by decide +kernel⟩, List.mem_of_getElem? (i := 97) (by decide +kernel), List.mem_of_getElem? (i := 697) (by decide +kernel), List.mem_of_getElem? (i := 698) (by decide +kernel)⟩
theorem lw_p26 : lw_okq (⟨"PaperRound$Round", "pickByCard", "(I)I"⟩, 7) := ⟨⟨by decide +kernel, by decide +kernel⟩, List.mem_of_getElem? (i := 97) (by decide +kernel), List.mem_of_getElem? (i := 701) (by decide +kernel), List.mem_of_getElem? (i := 702) (by decide +kernel)⟩
theorem lw_p27 : lw_okq (⟨"PaperRound$Round", "begin", "(II)V"⟩, 7) := ⟨⟨by decide +kernel, by decide +kernel⟩, List.mem_of_getElem? (i := 97) (by decide +kernel), List.mem_of_getElem? (i := 705) (by decide +kernel), List.mem_of_getElem? (i := 706) (by decide +kernel)⟩
theorem lw_p28 : lw_okq (⟨"PaperRound$Round", "letGo", "(I)V"⟩, 7) := ⟨⟨by decide +kernel, by decide +kernel⟩, List.mem_of_getElem? (i := 97) (by decide +kernel), List.mem_of_getElem? (i := 709) (by decide +kernel), List.mem_of_getElem? (i := 710) (by decide +kernel)⟩
theorem lw_p29 : lw_okq (⟨"PaperRound$Rule", "swap", "(II)V"⟩, 2) := ⟨⟨by decide +kernel, by decide +kernel⟩, List.mem_of_getElem? (i := 80) (by decide +kernel), List.mem_of_getElem? (i := 727) (by decide +kernel), List.mem_of_getElem? (i := 728) (by decide +kernel)⟩
theorem lw_p30 : lw_okq (⟨"PaperRound", "searchAll", "(I)I"⟩, 14) := ⟨⟨by decide +kernel, by decide +kernel⟩, List.mem_of_getElem? (i := 13) (by decide +kernel), List.mem_of_getElem? (i := 735) (by decide +kernel), List.mem_of_getElem? (i := 736) (by decide +kernel)⟩
theorem lw_p31 : lw_okq (⟨"PaperRound$Search", "miss", "(II)V"⟩, 17) := ⟨⟨by decide +kernel, by decide +kernel⟩, List.mem_of_getElem? (i := 125) (by decide +kernel), List.mem_of_getElem? (i := 747) (by decide +kernel), List.mem_of_getElem? (i := 748) (by decide +kernel)⟩
def lw_privs_2 : List (MethodName × Nat) := [(⟨"PaperRound$Plan", "lossBy", "(LPaperRound$House;I)I"⟩, 1), (⟨"PaperRound", "lackOfCard", "(I)I"⟩, 14), (⟨"PaperRound$Round", "pick", "(I)I"⟩, 7), (⟨"PaperRound$Round", "pickNext", "(I)I"⟩, 7), (⟨"PaperRound$Round", "firstOf", "(II)I"⟩, 7), (⟨"PaperRound$Round", "isThrough", "(I)Z"⟩, 7), (⟨"PaperRound$Round", "mayBegin", "(II)Z"⟩, 7), (⟨"PaperRound$Round", "freeCopy", "(II)I"⟩, 7), (⟨"PaperRound$Round", "pickDear", "(I)I"⟩, 7), (⟨"PaperRound$Round", "pickShort", "(I)I"⟩, 7), (⟨"PaperRound$Round", "pickByCard", "(I)I"⟩, 7), (⟨"PaperRound$Round", "begin", "(II)V"⟩, 7), (⟨"PaperRound$Round", "letGo", "(I)V"⟩, 7), (⟨"PaperRound$Rule", "swap", "(II)V"⟩, 2), (⟨"PaperRound", "searchAll", "(I)I"⟩, 14), (⟨"PaperRound$Search", "miss", "(II)V"⟩, 17)]
theorem lw_r2 : ∀ q ∈ lw_privs_2, lw_okq q := List.forall_mem_cons.mpr ⟨lw_p16, List.forall_mem_cons.mpr ⟨lw_p17, List.forall_mem_cons.mpr ⟨lw_p18, List.forall_mem_cons.mpr ⟨lw_p19, List.forall_mem_cons.mpr ⟨lw_p20, List.forall_mem_cons.mpr ⟨lw_p21, List.forall_mem_cons.mpr ⟨lw_p22, List.forall_mem_cons.mpr ⟨lw_p23, List.forall_mem_cons.mpr ⟨lw_p24, List.forall_mem_cons.mpr ⟨lw_p25, List.forall_mem_cons.mpr ⟨lw_p26, List.forall_mem_cons.mpr ⟨lw_p27, List.forall_mem_cons.mpr ⟨lw_p28, List.forall_mem_cons.mpr ⟨lw_p29, List.forall_mem_cons.mpr ⟨lw_p30, List.forall_mem_cons.mpr ⟨lw_p31, fun _ h => absurd h List.not_mem_nil⟩⟩⟩⟩⟩⟩⟩⟩⟩⟩⟩⟩⟩⟩⟩⟩
theorem lw_p32 : lw_okq (⟨"PaperRound$Search", "weigh", "(I)V"⟩, 17) := ⟨⟨by decide +kernel, by decide +kernel⟩, List.mem_of_getElem? (i := 125) (by decide +kernel), List.mem_of_getElem? (i := 759) (by decide +kernel), List.mem_of_getElem? (i := 760) (by decide +kernel)⟩
theorem lw_p33 : lw_okq (⟨"PaperRound$Search", "hope", "(I)I"⟩, 17) := ⟨⟨by decide +kernel, by decide +kernel⟩, List.mem_of_getElem? (i := 125) (by decide +kernel), List.mem_of_getElem? (i := 767) (by decide +kernel), List.mem_of_getElem? (i := 768) (by decide +kernel)⟩
theorem lw_p34 : lw_okq (⟨"PaperRound$Search", "earliest", "(I)I"⟩, 17) := ⟨⟨by decide +kernel, by decide +kernel⟩, List.mem_of_getElem? (i := 125) (by decide +kernel), List.mem_of_getElem? (i := 771) (by decide +kernel), List.mem_of_getElem? (i := 772) (by decide +kernel)⟩
theorem lw_p35 : lw_okq (⟨"PaperRound$Search", "firstCopy", "(I)I"⟩, 17) := ⟨⟨by decide +kernel, by decide +kernel⟩, List.mem_of_getElem? (i := 125) (by decide +kernel), List.mem_of_getElem? (i := 775) (by decide +kernel), List.mem_of_getElem? (i := 776) (by decide +kernel)⟩
theorem lw_p36 : lw_okq (⟨"PaperRound$Search", "isNext", "(I)Z"⟩, 17) := ⟨⟨by decide +kernel, by decide +kernel⟩, List.mem_of_getElem? (i := 125) (by decide +kernel), List.mem_of_getElem? (i := 783) (by decide +kernel), List.mem_of_getElem? (i := 784) (by decide +kernel)⟩
theorem lw_p37 : lw_okq (⟨"PaperRound$Search", "place", "(III)V"⟩, 17) := ⟨⟨by decide +kernel, by decide +kernel⟩, List.mem_of_getElem? (i := 125) (by decide +kernel), List.mem_of_getElem? (i := 787) (by decide +kernel), List.mem_of_getElem? (i := 788) (by decide +kernel)⟩
theorem lw_p38 : lw_okq (⟨"PaperRound$Search", "takeBack", "(II)V"⟩, 17) := ⟨⟨by decide +kernel, by decide +kernel⟩, List.mem_of_getElem? (i := 125) (by decide +kernel), List.mem_of_getElem? (i := 791) (by decide +kernel), List.mem_of_getElem? (i := 792) (by decide +kernel)⟩
theorem lw_p39 : lw_okq (⟨"PaperRound", "keepAhead", "(I)V"⟩, 14) := ⟨⟨by decide +kernel, by decide +kernel⟩, List.mem_of_getElem? (i := 13) (by decide +kernel), List.mem_of_getElem? (i := 807) (by decide +kernel), List.mem_of_getElem? (i := 808) (by decide +kernel)⟩
theorem lw_p40 : lw_okq (⟨"PaperRound", "canAllHaveAll", "(I)Z"⟩, 14) := ⟨⟨by decide +kernel, by decide +kernel⟩, List.mem_of_getElem? (i := 13) (by decide +kernel), List.mem_of_getElem? (i := 832) (by decide +kernel), List.mem_of_getElem? (i := 833) (by decide +kernel)⟩
theorem lw_p41 : lw_okq (⟨"PaperRound", "rulesThere", "(Z)I"⟩, 14) := ⟨⟨by decide +kernel, by decide +kernel⟩, List.mem_of_getElem? (i := 13) (by decide +kernel), List.mem_of_getElem? (i := 848) (by decide +kernel), List.mem_of_getElem? (i := 849) (by decide +kernel)⟩
theorem lw_p42 : lw_okq (⟨"PaperRound", "digestOfHouse", "(J)J"⟩, 14) := ⟨⟨by decide +kernel, by decide +kernel⟩, List.mem_of_getElem? (i := 13) (by decide +kernel), List.mem_of_getElem? (i := 871) (by decide +kernel), List.mem_of_getElem? (i := 872) (by decide +kernel)⟩
theorem lw_p43 : lw_okq (⟨"PaperRoundModel", "meets", "(I)I"⟩, 48) := ⟨⟨by decide +kernel, by decide +kernel⟩, List.mem_of_getElem? (i := 880) (by decide +kernel), List.mem_of_getElem? (i := 1054) (by decide +kernel), List.mem_of_getElem? (i := 1055) (by decide +kernel)⟩
theorem lw_p44 : lw_okq (⟨"PaperRoundModel", "rowAt", "(II)I"⟩, 48) := ⟨⟨by decide +kernel, by decide +kernel⟩, List.mem_of_getElem? (i := 880) (by decide +kernel), List.mem_of_getElem? (i := 1062) (by decide +kernel), List.mem_of_getElem? (i := 1063) (by decide +kernel)⟩
theorem lw_p45 : lw_okq (⟨"PaperRoundModel", "tells", "(II)I"⟩, 48) := ⟨⟨by decide +kernel, by decide +kernel⟩, List.mem_of_getElem? (i := 880) (by decide +kernel), List.mem_of_getElem? (i := 1066) (by decide +kernel), List.mem_of_getElem? (i := 1067) (by decide +kernel)⟩
theorem lw_p46 : lw_okq (⟨"PaperRoundModel", "faultOf", "(I)I"⟩, 48) := ⟨⟨by decide +kernel, by decide +kernel⟩, List.mem_of_getElem? (i := 880) (by decide +kernel), List.mem_of_getElem? (i := 1101) (by decide +kernel), List.mem_of_getElem? (i := 1102) (by decide +kernel)⟩
theorem lw_p47 : lw_okq (⟨"PaperRoundModel", "byteAt", "(II)I"⟩, 48) := ⟨⟨by decide +kernel, by decide +kernel⟩, List.mem_of_getElem? (i := 880) (by decide +kernel), List.mem_of_getElem? (i := 1105) (by decide +kernel), List.mem_of_getElem? (i := 1106) (by decide +kernel)⟩
def lw_privs_3 : List (MethodName × Nat) := [(⟨"PaperRound$Search", "weigh", "(I)V"⟩, 17), (⟨"PaperRound$Search", "hope", "(I)I"⟩, 17), (⟨"PaperRound$Search", "earliest", "(I)I"⟩, 17), (⟨"PaperRound$Search", "firstCopy", "(I)I"⟩, 17), (⟨"PaperRound$Search", "isNext", "(I)Z"⟩, 17), (⟨"PaperRound$Search", "place", "(III)V"⟩, 17), (⟨"PaperRound$Search", "takeBack", "(II)V"⟩, 17), (⟨"PaperRound", "keepAhead", "(I)V"⟩, 14), (⟨"PaperRound", "canAllHaveAll", "(I)Z"⟩, 14), (⟨"PaperRound", "rulesThere", "(Z)I"⟩, 14), (⟨"PaperRound", "digestOfHouse", "(J)J"⟩, 14), (⟨"PaperRoundModel", "meets", "(I)I"⟩, 48), (⟨"PaperRoundModel", "rowAt", "(II)I"⟩, 48), (⟨"PaperRoundModel", "tells", "(II)I"⟩, 48), (⟨"PaperRoundModel", "faultOf", "(I)I"⟩, 48), (⟨"PaperRoundModel", "byteAt", "(II)I"⟩, 48)]
theorem lw_r3 : ∀ q ∈ lw_privs_3, lw_okq q := List.forall_mem_cons.mpr ⟨lw_p32, List.forall_mem_cons.mpr ⟨lw_p33, List.forall_mem_cons.mpr ⟨lw_p34, List.forall_mem_cons.mpr ⟨lw_p35, List.forall_mem_cons.mpr ⟨lw_p36, List.forall_mem_cons.mpr ⟨lw_p37, List.forall_mem_cons.mpr ⟨lw_p38, List.forall_mem_cons.mpr ⟨lw_p39, List.forall_mem_cons.mpr ⟨lw_p40, List.forall_mem_cons.mpr ⟨lw_p41, List.forall_mem_cons.mpr ⟨lw_p42, List.forall_mem_cons.mpr ⟨lw_p43, List.forall_mem_cons.mpr ⟨lw_p44, List.forall_mem_cons.mpr ⟨lw_p45, List.forall_mem_cons.mpr ⟨lw_p46, List.forall_mem_cons.mpr ⟨lw_p47, fun _ h => absurd h List.not_mem_nil⟩⟩⟩⟩⟩⟩⟩⟩⟩⟩⟩⟩⟩⟩⟩⟩
theorem lw_p48 : lw_okq (⟨"PaperRoundModel", "readsItem", "(I)Z"⟩, 48) := ⟨⟨by decide +kernel, by decide +kernel⟩, List.mem_of_getElem? (i := 880) (by decide +kernel), List.mem_of_getElem? (i := 1109) (by decide +kernel), List.mem_of_getElem? (i := 1110) (by decide +kernel)⟩
theorem lw_p49 : lw_okq (⟨"PaperRoundModel", "readsLast", "(I)Z"⟩, 48) := ⟨⟨by decide +kernel, by decide +kernel⟩, List.mem_of_getElem? (i := 880) (by decide +kernel), List.mem_of_getElem? (i := 1113) (by decide +kernel), List.mem_of_getElem? (i := 1114) (by decide +kernel)⟩
theorem lw_p50 : lw_okq (⟨"PaperRoundModel", "minute", "(III)Z"⟩, 48) := ⟨⟨by decide +kernel, by decide +kernel⟩, List.mem_of_getElem? (i := 880) (by decide +kernel), List.mem_of_getElem? (i := 1117) (by decide +kernel), List.mem_of_getElem? (i := 1118) (by decide +kernel)⟩
theorem lw_p51 : lw_okq (⟨"PaperRoundModel", "readsPart", "(I)Z"⟩, 48) := ⟨⟨by decide +kernel, by decide +kernel⟩, List.mem_of_getElem? (i := 880) (by decide +kernel), List.mem_of_getElem? (i := 1121) (by decide +kernel), List.mem_of_getElem? (i := 1122) (by decide +kernel)⟩
theorem lw_p52 : lw_okq (⟨"PaperRoundModel", "figure", "(III)Z"⟩, 48) := ⟨⟨by decide +kernel, by decide +kernel⟩, List.mem_of_getElem? (i := 880) (by decide +kernel), List.mem_of_getElem? (i := 1125) (by decide +kernel), List.mem_of_getElem? (i := 1126) (by decide +kernel)⟩
theorem lw_p53 : lw_okq (⟨"PaperRoundModel", "sign", "(II)Z"⟩, 48) := ⟨⟨by decide +kernel, by decide +kernel⟩, List.mem_of_getElem? (i := 880) (by decide +kernel), List.mem_of_getElem? (i := 1129) (by decide +kernel), List.mem_of_getElem? (i := 1130) (by decide +kernel)⟩
theorem lw_p54 : lw_okq (⟨"PaperRoundModel", "readsReader", "(I)Z"⟩, 48) := ⟨⟨by decide +kernel, by decide +kernel⟩, List.mem_of_getElem? (i := 880) (by decide +kernel), List.mem_of_getElem? (i := 1133) (by decide +kernel), List.mem_of_getElem? (i := 1134) (by decide +kernel)⟩
theorem lw_p55 : lw_okq (⟨"PaperRoundModel", "readsWant", "(II)Z"⟩, 48) := ⟨⟨by decide +kernel, by decide +kernel⟩, List.mem_of_getElem? (i := 880) (by decide +kernel), List.mem_of_getElem? (i := 1140) (by decide +kernel), List.mem_of_getElem? (i := 1141) (by decide +kernel)⟩
theorem lw_p56 : lw_okq (⟨"PaperRoundModel", "readsNot", "(I)Z"⟩, 48) := ⟨⟨by decide +kernel, by decide +kernel⟩, List.mem_of_getElem? (i := 880) (by decide +kernel), List.mem_of_getElem? (i := 1144) (by decide +kernel), List.mem_of_getElem? (i := 1145) (by decide +kernel)⟩
theorem lw_p57 : lw_okq (⟨"PaperRoundModel", "readsCushion", "(I)Z"⟩, 48) := ⟨⟨by decide +kernel, by decide +kernel⟩, List.mem_of_getElem? (i := 880) (by decide +kernel), List.mem_of_getElem? (i := 1148) (by decide +kernel), List.mem_of_getElem? (i := 1149) (by decide +kernel)⟩
theorem lw_p58 : lw_okq (⟨"PaperRoundModel", "isPart", "(I)Z"⟩, 48) := ⟨⟨by decide +kernel, by decide +kernel⟩, List.mem_of_getElem? (i := 880) (by decide +kernel), List.mem_of_getElem? (i := 1160) (by decide +kernel), List.mem_of_getElem? (i := 1161) (by decide +kernel)⟩
theorem lw_p59 : lw_okq (⟨"PaperRoundModel", "isReader", "(I)Z"⟩, 48) := ⟨⟨by decide +kernel, by decide +kernel⟩, List.mem_of_getElem? (i := 880) (by decide +kernel), List.mem_of_getElem? (i := 1168) (by decide +kernel), List.mem_of_getElem? (i := 1169) (by decide +kernel)⟩
theorem lw_p60 : lw_okq (⟨"PaperRoundModel", "readerTells", "(II)I"⟩, 48) := ⟨⟨by decide +kernel, by decide +kernel⟩, List.mem_of_getElem? (i := 880) (by decide +kernel), List.mem_of_getElem? (i := 1172) (by decide +kernel), List.mem_of_getElem? (i := 1173) (by decide +kernel)⟩
theorem lw_p61 : lw_okq (⟨"PaperRoundModel", "readerOf", "(I)I"⟩, 48) := ⟨⟨by decide +kernel, by decide +kernel⟩, List.mem_of_getElem? (i := 880) (by decide +kernel), List.mem_of_getElem? (i := 1176) (by decide +kernel), List.mem_of_getElem? (i := 1177) (by decide +kernel)⟩
theorem lw_p62 : lw_okq (⟨"PaperRoundModel", "isWant", "(I)Z"⟩, 48) := ⟨⟨by decide +kernel, by decide +kernel⟩, List.mem_of_getElem? (i := 880) (by decide +kernel), List.mem_of_getElem? (i := 1184) (by decide +kernel), List.mem_of_getElem? (i := 1185) (by decide +kernel)⟩
theorem lw_p63 : lw_okq (⟨"PaperRoundModel", "wantTells", "(II)I"⟩, 48) := ⟨⟨by decide +kernel, by decide +kernel⟩, List.mem_of_getElem? (i := 880) (by decide +kernel), List.mem_of_getElem? (i := 1188) (by decide +kernel), List.mem_of_getElem? (i := 1189) (by decide +kernel)⟩
def lw_privs_4 : List (MethodName × Nat) := [(⟨"PaperRoundModel", "readsItem", "(I)Z"⟩, 48), (⟨"PaperRoundModel", "readsLast", "(I)Z"⟩, 48), (⟨"PaperRoundModel", "minute", "(III)Z"⟩, 48), (⟨"PaperRoundModel", "readsPart", "(I)Z"⟩, 48), (⟨"PaperRoundModel", "figure", "(III)Z"⟩, 48), (⟨"PaperRoundModel", "sign", "(II)Z"⟩, 48), (⟨"PaperRoundModel", "readsReader", "(I)Z"⟩, 48), (⟨"PaperRoundModel", "readsWant", "(II)Z"⟩, 48), (⟨"PaperRoundModel", "readsNot", "(I)Z"⟩, 48), (⟨"PaperRoundModel", "readsCushion", "(I)Z"⟩, 48), (⟨"PaperRoundModel", "isPart", "(I)Z"⟩, 48), (⟨"PaperRoundModel", "isReader", "(I)Z"⟩, 48), (⟨"PaperRoundModel", "readerTells", "(II)I"⟩, 48), (⟨"PaperRoundModel", "readerOf", "(I)I"⟩, 48), (⟨"PaperRoundModel", "isWant", "(I)Z"⟩, 48), (⟨"PaperRoundModel", "wantTells", "(II)I"⟩, 48)]
theorem lw_r4 : ∀ q ∈ lw_privs_4, lw_okq q := List.forall_mem_cons.mpr ⟨lw_p48, List.forall_mem_cons.mpr ⟨lw_p49, List.forall_mem_cons.mpr ⟨lw_p50, List.forall_mem_cons.mpr ⟨lw_p51, List.forall_mem_cons.mpr ⟨lw_p52, List.forall_mem_cons.mpr ⟨lw_p53, List.forall_mem_cons.mpr ⟨lw_p54, List.forall_mem_cons.mpr ⟨lw_p55, List.forall_mem_cons.mpr ⟨lw_p56, List.forall_mem_cons.mpr ⟨lw_p57, List.forall_mem_cons.mpr ⟨lw_p58, List.forall_mem_cons.mpr ⟨lw_p59, List.forall_mem_cons.mpr ⟨lw_p60, List.forall_mem_cons.mpr ⟨lw_p61, List.forall_mem_cons.mpr ⟨lw_p62, List.forall_mem_cons.mpr ⟨lw_p63, fun _ h => absurd h List.not_mem_nil⟩⟩⟩⟩⟩⟩⟩⟩⟩⟩⟩⟩⟩⟩⟩⟩
theorem lw_p64 : lw_okq (⟨"PaperRoundModel", "partOf", "(I)I"⟩, 48) := ⟨⟨by decide +kernel, by decide +kernel⟩, List.mem_of_getElem? (i := 880) (by decide +kernel), List.mem_of_getElem? (i := 1192) (by decide +kernel), List.mem_of_getElem? (i := 1193) (by decide +kernel)⟩
theorem lw_p65 : lw_okq (⟨"PaperRoundModel", "isNotAfter", "(III)Z"⟩, 48) := ⟨⟨by decide +kernel, by decide +kernel⟩, List.mem_of_getElem? (i := 880) (by decide +kernel), List.mem_of_getElem? (i := 1196) (by decide +kernel), List.mem_of_getElem? (i := 1197) (by decide +kernel)⟩
theorem lw_p66 : lw_okq (⟨"PaperRoundModel", "firstBad", "()I"⟩, 48) := ⟨⟨by decide +kernel, by decide +kernel⟩, List.mem_of_getElem? (i := 880) (by decide +kernel), List.mem_of_getElem? (i := 1220) (by decide +kernel), List.mem_of_getElem? (i := 1221) (by decide +kernel)⟩
theorem lw_p67 : lw_okq (⟨"PaperRoundModel", "isReading", "(II)Z"⟩, 48) := ⟨⟨by decide +kernel, by decide +kernel⟩, List.mem_of_getElem? (i := 880) (by decide +kernel), List.mem_of_getElem? (i := 1224) (by decide +kernel), List.mem_of_getElem? (i := 1225) (by decide +kernel)⟩
theorem lw_p68 : lw_okq (⟨"PaperRoundModel", "isRead", "(I)Z"⟩, 48) := ⟨⟨by decide +kernel, by decide +kernel⟩, List.mem_of_getElem? (i := 880) (by decide +kernel), List.mem_of_getElem? (i := 1228) (by decide +kernel), List.mem_of_getElem? (i := 1229) (by decide +kernel)⟩
theorem lw_p69 : lw_okq (⟨"PaperRoundModel", "endOf", "(I)I"⟩, 48) := ⟨⟨by decide +kernel, by decide +kernel⟩, List.mem_of_getElem? (i := 880) (by decide +kernel), List.mem_of_getElem? (i := 1232) (by decide +kernel), List.mem_of_getElem? (i := 1233) (by decide +kernel)⟩
theorem lw_p70 : lw_okq (⟨"PaperRoundModel", "minutesOf", "(I)I"⟩, 48) := ⟨⟨by decide +kernel, by decide +kernel⟩, List.mem_of_getElem? (i := 880) (by decide +kernel), List.mem_of_getElem? (i := 1236) (by decide +kernel), List.mem_of_getElem? (i := 1237) (by decide +kernel)⟩
theorem lw_p71 : lw_okq (⟨"PaperRoundModel", "isWell", "(II)Z"⟩, 48) := ⟨⟨by decide +kernel, by decide +kernel⟩, List.mem_of_getElem? (i := 880) (by decide +kernel), List.mem_of_getElem? (i := 1240) (by decide +kernel), List.mem_of_getElem? (i := 1241) (by decide +kernel)⟩
theorem lw_p72 : lw_okq (⟨"PaperRoundModel", "from", "(I)I"⟩, 48) := ⟨⟨by decide +kernel, by decide +kernel⟩, List.mem_of_getElem? (i := 880) (by decide +kernel), List.mem_of_getElem? (i := 1244) (by decide +kernel), List.mem_of_getElem? (i := 1245) (by decide +kernel)⟩
theorem lw_p73 : lw_okq (⟨"PaperRoundModel", "till", "(I)I"⟩, 48) := ⟨⟨by decide +kernel, by decide +kernel⟩, List.mem_of_getElem? (i := 880) (by decide +kernel), List.mem_of_getElem? (i := 1248) (by decide +kernel), List.mem_of_getElem? (i := 1249) (by decide +kernel)⟩
theorem lw_p74 : lw_okq (⟨"PaperRoundModel", "comesAt", "(I)I"⟩, 48) := ⟨⟨by decide +kernel, by decide +kernel⟩, List.mem_of_getElem? (i := 880) (by decide +kernel), List.mem_of_getElem? (i := 1252) (by decide +kernel), List.mem_of_getElem? (i := 1253) (by decide +kernel)⟩
theorem lw_p75 : lw_okq (⟨"PaperRoundModel", "isUnder", "(III)Z"⟩, 48) := ⟨⟨by decide +kernel, by decide +kernel⟩, List.mem_of_getElem? (i := 880) (by decide +kernel), List.mem_of_getElem? (i := 1256) (by decide +kernel), List.mem_of_getElem? (i := 1257) (by decide +kernel)⟩
theorem lw_p76 : lw_okq (⟨"PaperRoundModel", "readingMany", "(II)I"⟩, 48) := ⟨⟨by decide +kernel, by decide +kernel⟩, List.mem_of_getElem? (i := 880) (by decide +kernel), List.mem_of_getElem? (i := 1260) (by decide +kernel), List.mem_of_getElem? (i := 1261) (by decide +kernel)⟩
theorem lw_p77 : lw_okq (⟨"PaperRoundModel", "copiesOf", "(I)I"⟩, 48) := ⟨⟨by decide +kernel, by decide +kernel⟩, List.mem_of_getElem? (i := 880) (by decide +kernel), List.mem_of_getElem? (i := 1264) (by decide +kernel), List.mem_of_getElem? (i := 1265) (by decide +kernel)⟩
theorem lw_p78 : lw_okq (⟨"PaperRoundModel", "doesRead", "(III)Z"⟩, 48) := ⟨⟨by decide +kernel, by decide +kernel⟩, List.mem_of_getElem? (i := 880) (by decide +kernel), List.mem_of_getElem? (i := 1268) (by decide +kernel), List.mem_of_getElem? (i := 1269) (by decide +kernel)⟩
theorem lw_p79 : lw_okq (⟨"PaperRoundModel", "isDue", "(II)Z"⟩, 48) := ⟨⟨by decide +kernel, by decide +kernel⟩, List.mem_of_getElem? (i := 880) (by decide +kernel), List.mem_of_getElem? (i := 1272) (by decide +kernel), List.mem_of_getElem? (i := 1273) (by decide +kernel)⟩
def lw_privs_5 : List (MethodName × Nat) := [(⟨"PaperRoundModel", "partOf", "(I)I"⟩, 48), (⟨"PaperRoundModel", "isNotAfter", "(III)Z"⟩, 48), (⟨"PaperRoundModel", "firstBad", "()I"⟩, 48), (⟨"PaperRoundModel", "isReading", "(II)Z"⟩, 48), (⟨"PaperRoundModel", "isRead", "(I)Z"⟩, 48), (⟨"PaperRoundModel", "endOf", "(I)I"⟩, 48), (⟨"PaperRoundModel", "minutesOf", "(I)I"⟩, 48), (⟨"PaperRoundModel", "isWell", "(II)Z"⟩, 48), (⟨"PaperRoundModel", "from", "(I)I"⟩, 48), (⟨"PaperRoundModel", "till", "(I)I"⟩, 48), (⟨"PaperRoundModel", "comesAt", "(I)I"⟩, 48), (⟨"PaperRoundModel", "isUnder", "(III)Z"⟩, 48), (⟨"PaperRoundModel", "readingMany", "(II)I"⟩, 48), (⟨"PaperRoundModel", "copiesOf", "(I)I"⟩, 48), (⟨"PaperRoundModel", "doesRead", "(III)Z"⟩, 48), (⟨"PaperRoundModel", "isDue", "(II)Z"⟩, 48)]
theorem lw_r5 : ∀ q ∈ lw_privs_5, lw_okq q := List.forall_mem_cons.mpr ⟨lw_p64, List.forall_mem_cons.mpr ⟨lw_p65, List.forall_mem_cons.mpr ⟨lw_p66, List.forall_mem_cons.mpr ⟨lw_p67, List.forall_mem_cons.mpr ⟨lw_p68, List.forall_mem_cons.mpr ⟨lw_p69, List.forall_mem_cons.mpr ⟨lw_p70, List.forall_mem_cons.mpr ⟨lw_p71, List.forall_mem_cons.mpr ⟨lw_p72, List.forall_mem_cons.mpr ⟨lw_p73, List.forall_mem_cons.mpr ⟨lw_p74, List.forall_mem_cons.mpr ⟨lw_p75, List.forall_mem_cons.mpr ⟨lw_p76, List.forall_mem_cons.mpr ⟨lw_p77, List.forall_mem_cons.mpr ⟨lw_p78, List.forall_mem_cons.mpr ⟨lw_p79, fun _ h => absurd h List.not_mem_nil⟩⟩⟩⟩⟩⟩⟩⟩⟩⟩⟩⟩⟩⟩⟩⟩
theorem lw_p80 : lw_okq (⟨"PaperRoundModel", "isInOrder", "(I)Z"⟩, 48) := ⟨⟨by decide +kernel, by decide +kernel⟩, List.mem_of_getElem? (i := 880) (by decide +kernel), List.mem_of_getElem? (i := 1276) (by decide +kernel), List.mem_of_getElem? (i := 1277) (by decide +kernel)⟩
theorem lw_p81 : lw_okq (⟨"PaperRoundModel", "isSpoilt", "(II)Z"⟩, 48) := ⟨⟨by decide +kernel, by decide +kernel⟩, List.mem_of_getElem? (i := 880) (by decide +kernel), List.mem_of_getElem? (i := 1280) (by decide +kernel), List.mem_of_getElem? (i := 1281) (by decide +kernel)⟩
theorem lw_p82 : lw_okq (⟨"PaperRoundModel", "missedOf", "(I)I"⟩, 48) := ⟨⟨by decide +kernel, by decide +kernel⟩, List.mem_of_getElem? (i := 880) (by decide +kernel), List.mem_of_getElem? (i := 1288) (by decide +kernel), List.mem_of_getElem? (i := 1289) (by decide +kernel)⟩
theorem lw_p83 : lw_okq (⟨"PaperRoundModel", "worthAt", "(II)I"⟩, 48) := ⟨⟨by decide +kernel, by decide +kernel⟩, List.mem_of_getElem? (i := 880) (by decide +kernel), List.mem_of_getElem? (i := 1292) (by decide +kernel), List.mem_of_getElem? (i := 1293) (by decide +kernel)⟩
theorem lw_p84 : lw_okq (⟨"PaperRoundModel", "markOf", "(II)I"⟩, 48) := ⟨⟨by decide +kernel, by decide +kernel⟩, List.mem_of_getElem? (i := 880) (by decide +kernel), List.mem_of_getElem? (i := 1326) (by decide +kernel), List.mem_of_getElem? (i := 1327) (by decide +kernel)⟩
theorem lw_p85 : lw_okq (⟨"PaperRoundModel", "runs", "(I)V"⟩, 48) := ⟨⟨by decide +kernel, by decide +kernel⟩, List.mem_of_getElem? (i := 880) (by decide +kernel), List.mem_of_getElem? (i := 1334) (by decide +kernel), List.mem_of_getElem? (i := 1335) (by decide +kernel)⟩
theorem lw_p86 : lw_okq (⟨"PaperRoundModel", "chosen", "(II)I"⟩, 48) := ⟨⟨by decide +kernel, by decide +kernel⟩, List.mem_of_getElem? (i := 880) (by decide +kernel), List.mem_of_getElem? (i := 1338) (by decide +kernel), List.mem_of_getElem? (i := 1339) (by decide +kernel)⟩
theorem lw_p87 : lw_okq (⟨"PaperRoundModel", "may", "(IIZ)Z"⟩, 48) := ⟨⟨by decide +kernel, by decide +kernel⟩, List.mem_of_getElem? (i := 880) (by decide +kernel), List.mem_of_getElem? (i := 1342) (by decide +kernel), List.mem_of_getElem? (i := 1343) (by decide +kernel)⟩
theorem lw_p88 : lw_okq (⟨"PaperRoundModel", "takenMany", "(IIZ)I"⟩, 48) := ⟨⟨by decide +kernel, by decide +kernel⟩, List.mem_of_getElem? (i := 880) (by decide +kernel), List.mem_of_getElem? (i := 1346) (by decide +kernel), List.mem_of_getElem? (i := 1347) (by decide +kernel)⟩
theorem lw_p89 : lw_okq (⟨"PaperRoundModel", "hasAll", "(II)Z"⟩, 48) := ⟨⟨by decide +kernel, by decide +kernel⟩, List.mem_of_getElem? (i := 880) (by decide +kernel), List.mem_of_getElem? (i := 1350) (by decide +kernel), List.mem_of_getElem? (i := 1351) (by decide +kernel)⟩
theorem lw_p90 : lw_okq (⟨"PaperRoundModel", "firstOf", "(IIZ)I"⟩, 48) := ⟨⟨by decide +kernel, by decide +kernel⟩, List.mem_of_getElem? (i := 880) (by decide +kernel), List.mem_of_getElem? (i := 1354) (by decide +kernel), List.mem_of_getElem? (i := 1355) (by decide +kernel)⟩
theorem lw_p91 : lw_okq (⟨"PaperRoundModel", "waitsSince", "(I)I"⟩, 48) := ⟨⟨by decide +kernel, by decide +kernel⟩, List.mem_of_getElem? (i := 880) (by decide +kernel), List.mem_of_getElem? (i := 1358) (by decide +kernel), List.mem_of_getElem? (i := 1359) (by decide +kernel)⟩
theorem lw_p92 : lw_okq (⟨"PaperRoundModel", "keep", "([I)V"⟩, 48) := ⟨⟨by decide +kernel, by decide +kernel⟩, List.mem_of_getElem? (i := 880) (by decide +kernel), List.mem_of_getElem? (i := 1366) (by decide +kernel), List.mem_of_getElem? (i := 1367) (by decide +kernel)⟩
theorem lw_p93 : lw_okq (⟨"PaperRoundModel", "layCard", "(I)V"⟩, 48) := ⟨⟨by decide +kernel, by decide +kernel⟩, List.mem_of_getElem? (i := 880) (by decide +kernel), List.mem_of_getElem? (i := 1370) (by decide +kernel), List.mem_of_getElem? (i := 1371) (by decide +kernel)⟩
theorem lw_p94 : lw_okq (⟨"PaperRoundModel", "back", "([I)V"⟩, 48) := ⟨⟨by decide +kernel, by decide +kernel⟩, List.mem_of_getElem? (i := 880) (by decide +kernel), List.mem_of_getElem? (i := 1374) (by decide +kernel), List.mem_of_getElem? (i := 1375) (by decide +kernel)⟩
theorem lw_p95 : lw_okq (⟨"PaperRoundModel", "allWants", "()I"⟩, 48) := ⟨⟨by decide +kernel, by decide +kernel⟩, List.mem_of_getElem? (i := 880) (by decide +kernel), List.mem_of_getElem? (i := 1382) (by decide +kernel), List.mem_of_getElem? (i := 1383) (by decide +kernel)⟩
def lw_privs_6 : List (MethodName × Nat) := [(⟨"PaperRoundModel", "isInOrder", "(I)Z"⟩, 48), (⟨"PaperRoundModel", "isSpoilt", "(II)Z"⟩, 48), (⟨"PaperRoundModel", "missedOf", "(I)I"⟩, 48), (⟨"PaperRoundModel", "worthAt", "(II)I"⟩, 48), (⟨"PaperRoundModel", "markOf", "(II)I"⟩, 48), (⟨"PaperRoundModel", "runs", "(I)V"⟩, 48), (⟨"PaperRoundModel", "chosen", "(II)I"⟩, 48), (⟨"PaperRoundModel", "may", "(IIZ)Z"⟩, 48), (⟨"PaperRoundModel", "takenMany", "(IIZ)I"⟩, 48), (⟨"PaperRoundModel", "hasAll", "(II)Z"⟩, 48), (⟨"PaperRoundModel", "firstOf", "(IIZ)I"⟩, 48), (⟨"PaperRoundModel", "waitsSince", "(I)I"⟩, 48), (⟨"PaperRoundModel", "keep", "([I)V"⟩, 48), (⟨"PaperRoundModel", "layCard", "(I)V"⟩, 48), (⟨"PaperRoundModel", "back", "([I)V"⟩, 48), (⟨"PaperRoundModel", "allWants", "()I"⟩, 48)]
theorem lw_r6 : ∀ q ∈ lw_privs_6, lw_okq q := List.forall_mem_cons.mpr ⟨lw_p80, List.forall_mem_cons.mpr ⟨lw_p81, List.forall_mem_cons.mpr ⟨lw_p82, List.forall_mem_cons.mpr ⟨lw_p83, List.forall_mem_cons.mpr ⟨lw_p84, List.forall_mem_cons.mpr ⟨lw_p85, List.forall_mem_cons.mpr ⟨lw_p86, List.forall_mem_cons.mpr ⟨lw_p87, List.forall_mem_cons.mpr ⟨lw_p88, List.forall_mem_cons.mpr ⟨lw_p89, List.forall_mem_cons.mpr ⟨lw_p90, List.forall_mem_cons.mpr ⟨lw_p91, List.forall_mem_cons.mpr ⟨lw_p92, List.forall_mem_cons.mpr ⟨lw_p93, List.forall_mem_cons.mpr ⟨lw_p94, List.forall_mem_cons.mpr ⟨lw_p95, fun _ h => absurd h List.not_mem_nil⟩⟩⟩⟩⟩⟩⟩⟩⟩⟩⟩⟩⟩⟩⟩⟩
theorem lw_p96 : lw_okq (⟨"PaperRoundModel", "begins", "(I)Z"⟩, 48) := ⟨⟨by decide +kernel, by decide +kernel⟩, List.mem_of_getElem? (i := 880) (by decide +kernel), List.mem_of_getElem? (i := 1386) (by decide +kernel), List.mem_of_getElem? (i := 1387) (by decide +kernel)⟩
theorem lw_p97 : lw_okq (⟨"PaperRoundModel", "search", "(I)V"⟩, 48) := ⟨⟨by decide +kernel, by decide +kernel⟩, List.mem_of_getElem? (i := 880) (by decide +kernel), List.mem_of_getElem? (i := 1393) (by decide +kernel), List.mem_of_getElem? (i := 1394) (by decide +kernel)⟩
theorem lw_p98 : lw_okq (⟨"PaperRoundModel", "visit", "(I)V"⟩, 48) := ⟨⟨by decide +kernel, by decide +kernel⟩, List.mem_of_getElem? (i := 880) (by decide +kernel), List.mem_of_getElem? (i := 1397) (by decide +kernel), List.mem_of_getElem? (i := 1398) (by decide +kernel)⟩
theorem lw_p99 : lw_okq (⟨"PaperRoundModel", "missedLooked", "()I"⟩, 48) := ⟨⟨by decide +kernel, by decide +kernel⟩, List.mem_of_getElem? (i := 880) (by decide +kernel), List.mem_of_getElem? (i := 1401) (by decide +kernel), List.mem_of_getElem? (i := 1402) (by decide +kernel)⟩
theorem lw_p100 : lw_okq (⟨"PaperRoundModel", "lastEnd", "()I"⟩, 48) := ⟨⟨by decide +kernel, by decide +kernel⟩, List.mem_of_getElem? (i := 880) (by decide +kernel), List.mem_of_getElem? (i := 1405) (by decide +kernel), List.mem_of_getElem? (i := 1406) (by decide +kernel)⟩
theorem lw_p101 : lw_okq (⟨"PaperRoundModel", "worst", "()I"⟩, 48) := ⟨⟨by decide +kernel, by decide +kernel⟩, List.mem_of_getElem? (i := 880) (by decide +kernel), List.mem_of_getElem? (i := 1409) (by decide +kernel), List.mem_of_getElem? (i := 1410) (by decide +kernel)⟩
theorem lw_p102 : lw_okq (⟨"PaperRoundModel", "places", "(I)Z"⟩, 48) := ⟨⟨by decide +kernel, by decide +kernel⟩, List.mem_of_getElem? (i := 880) (by decide +kernel), List.mem_of_getElem? (i := 1413) (by decide +kernel), List.mem_of_getElem? (i := 1414) (by decide +kernel)⟩
theorem lw_p103 : lw_okq (⟨"PaperRoundModel", "isNext", "(I)Z"⟩, 48) := ⟨⟨by decide +kernel, by decide +kernel⟩, List.mem_of_getElem? (i := 880) (by decide +kernel), List.mem_of_getElem? (i := 1417) (by decide +kernel), List.mem_of_getElem? (i := 1418) (by decide +kernel)⟩
theorem lw_p104 : lw_okq (⟨"PaperRoundModel", "freeCopy", "(I)I"⟩, 48) := ⟨⟨by decide +kernel, by decide +kernel⟩, List.mem_of_getElem? (i := 880) (by decide +kernel), List.mem_of_getElem? (i := 1421) (by decide +kernel), List.mem_of_getElem? (i := 1422) (by decide +kernel)⟩
theorem lw_p105 : lw_okq (⟨"PaperRoundModel", "copyEnd", "(II)I"⟩, 48) := ⟨⟨by decide +kernel, by decide +kernel⟩, List.mem_of_getElem? (i := 880) (by decide +kernel), List.mem_of_getElem? (i := 1425) (by decide +kernel), List.mem_of_getElem? (i := 1426) (by decide +kernel)⟩
theorem lw_p106 : lw_okq (⟨"PaperRoundModel", "letsAll", "(II)Z"⟩, 48) := ⟨⟨by decide +kernel, by decide +kernel⟩, List.mem_of_getElem? (i := 880) (by decide +kernel), List.mem_of_getElem? (i := 1429) (by decide +kernel), List.mem_of_getElem? (i := 1430) (by decide +kernel)⟩
theorem lw_p107 : lw_okq (⟨"PaperRoundModel", "canAll", "(I)Z"⟩, 48) := ⟨⟨by decide +kernel, by decide +kernel⟩, List.mem_of_getElem? (i := 880) (by decide +kernel), List.mem_of_getElem? (i := 1453) (by decide +kernel), List.mem_of_getElem? (i := 1454) (by decide +kernel)⟩
theorem lw_p108 : lw_okq (⟨"PaperRoundModel", "counted", "(I)I"⟩, 48) := ⟨⟨by decide +kernel, by decide +kernel⟩, List.mem_of_getElem? (i := 880) (by decide +kernel), List.mem_of_getElem? (i := 1465) (by decide +kernel), List.mem_of_getElem? (i := 1466) (by decide +kernel)⟩
theorem lw_p109 : lw_okq (⟨"PaperRoundModel", "mix", "(J)V"⟩, 48) := ⟨⟨by decide +kernel, by decide +kernel⟩, List.mem_of_getElem? (i := 880) (by decide +kernel), List.mem_of_getElem? (i := 1474) (by decide +kernel), List.mem_of_getElem? (i := 1475) (by decide +kernel)⟩
theorem lw_p110 : lw_okq (⟨"PaperRoundModel", "mixHouse", "()V"⟩, 48) := ⟨⟨by decide +kernel, by decide +kernel⟩, List.mem_of_getElem? (i := 880) (by decide +kernel), List.mem_of_getElem? (i := 1479) (by decide +kernel), List.mem_of_getElem? (i := 1480) (by decide +kernel)⟩
def lw_privs_7 : List (MethodName × Nat) := [(⟨"PaperRoundModel", "begins", "(I)Z"⟩, 48), (⟨"PaperRoundModel", "search", "(I)V"⟩, 48), (⟨"PaperRoundModel", "visit", "(I)V"⟩, 48), (⟨"PaperRoundModel", "missedLooked", "()I"⟩, 48), (⟨"PaperRoundModel", "lastEnd", "()I"⟩, 48), (⟨"PaperRoundModel", "worst", "()I"⟩, 48), (⟨"PaperRoundModel", "places", "(I)Z"⟩, 48), (⟨"PaperRoundModel", "isNext", "(I)Z"⟩, 48), (⟨"PaperRoundModel", "freeCopy", "(I)I"⟩, 48), (⟨"PaperRoundModel", "copyEnd", "(II)I"⟩, 48), (⟨"PaperRoundModel", "letsAll", "(II)Z"⟩, 48), (⟨"PaperRoundModel", "canAll", "(I)Z"⟩, 48), (⟨"PaperRoundModel", "counted", "(I)I"⟩, 48), (⟨"PaperRoundModel", "mix", "(J)V"⟩, 48), (⟨"PaperRoundModel", "mixHouse", "()V"⟩, 48)]
theorem lw_r7 : ∀ q ∈ lw_privs_7, lw_okq q := List.forall_mem_cons.mpr ⟨lw_p96, List.forall_mem_cons.mpr ⟨lw_p97, List.forall_mem_cons.mpr ⟨lw_p98, List.forall_mem_cons.mpr ⟨lw_p99, List.forall_mem_cons.mpr ⟨lw_p100, List.forall_mem_cons.mpr ⟨lw_p101, List.forall_mem_cons.mpr ⟨lw_p102, List.forall_mem_cons.mpr ⟨lw_p103, List.forall_mem_cons.mpr ⟨lw_p104, List.forall_mem_cons.mpr ⟨lw_p105, List.forall_mem_cons.mpr ⟨lw_p106, List.forall_mem_cons.mpr ⟨lw_p107, List.forall_mem_cons.mpr ⟨lw_p108, List.forall_mem_cons.mpr ⟨lw_p109, List.forall_mem_cons.mpr ⟨lw_p110, fun _ h => absurd h List.not_mem_nil⟩⟩⟩⟩⟩⟩⟩⟩⟩⟩⟩⟩⟩⟩⟩
def lw_privs : List (MethodName × Nat) := lw_privs_1 ++ (lw_privs_2 ++ (lw_privs_3 ++ (lw_privs_4 ++ (lw_privs_5 ++ (lw_privs_6 ++ (lw_privs_7))))))
def lw_tbl : List Cond := k2_sels lw_privs ++ tables_1
theorem lw_privs_ok : ∀ q ∈ lw_privs, lw_okq q := by
  show ∀ q ∈ lw_privs_1 ++ (lw_privs_2 ++ (lw_privs_3 ++ (lw_privs_4 ++ (lw_privs_5 ++ (lw_privs_6 ++ (lw_privs_7)))))), lw_okq q
  exact List.forall_mem_append.mpr ⟨lw_r1, List.forall_mem_append.mpr ⟨lw_r2, List.forall_mem_append.mpr ⟨lw_r3, List.forall_mem_append.mpr ⟨lw_r4, List.forall_mem_append.mpr ⟨lw_r5, List.forall_mem_append.mpr ⟨lw_r6, lw_r7⟩⟩⟩⟩⟩⟩
-- ===== end of PART A; then your names; then what follows =====
def RX0 : String := "PaperRound$House"
def TX0 : u_T := fun k => match k with
  | 0 => ("PaperRound$House", "last", "I", false)
  | 1 => ("PaperRound$House", "parts", "I", false)
  | 2 => ("PaperRound$House", "readers", "I", false)
  | 3 => ("PaperRound$House", "wants", "I", false)
  | 4 => ("PaperRound$House", "copies", "[I", true)
  | 5 => ("PaperRound$House", "comes", "[I", true)
  | 6 => ("PaperRound$House", "stale", "[I", true)
  | 7 => ("PaperRound$House", "covered", "[J", true)
  | 8 => ("PaperRound$House", "from", "[I", true)
  | 9 => ("PaperRound$House", "till", "[I", true)
  | 10 => ("PaperRound$House", "wantsOf", "[I", true)
  | 11 => ("PaperRound$House", "ordered", "[Z", true)
  | 12 => ("PaperRound$House", "readerOf", "[I", true)
  | 13 => ("PaperRound$House", "partOf", "[I", true)
  | 14 => ("PaperRound$House", "minutes", "[I", true)
  | 15 => ("PaperRound$House", "worth", "[I", true)
  | 16 => ("PaperRound$House", "notAfter", "[I", true)
  | 17 => ("PaperRound$House", "rivals", "[I", true)
  | _ => ("PaperRound$House", "ahead", "[I", true)
def tyX0 : Nat → FieldType := fun k => match k with
  | 0 => .int
  | 1 => .int
  | 2 => .int
  | 3 => .int
  | 4 => .array .int
  | 5 => .array .int
  | 6 => .array .int
  | 7 => .array .long
  | 8 => .array .int
  | 9 => .array .int
  | 10 => .array .int
  | 11 => .array .boolean
  | 12 => .array .int
  | 13 => .array .int
  | 14 => .array .int
  | 15 => .array .int
  | 16 => .array .int
  | 17 => .array .int
  | _ => .array .int
abbrev wsX00 : List Cond := u_ws RX0 TX0 19
theorem nmX0 : ∀ a, a < 19 → ∀ b, b < 19 → a ≠ b → (TX0 a).2.1 ≠ (TX0 b).2.1 := by decide +kernel
theorem tyX0_ok : ∀ k, k < 19 → parseFieldDescriptor (TX0 k).2.2.1 = some (tyX0 k) := by decide +kernel
abbrev cX0_init : ByteArray := prog_2_method_1_code
def yX0_init : MethodName := ⟨RX0, "<init>", "()V"⟩
abbrev cX0_clear : ByteArray := prog_2_method_2_code
def yX0_clear : MethodName := ⟨RX0, "clear", "()V"⟩
abbrev cX0_hasPart : ByteArray := prog_2_method_3_code
def yX0_hasPart : MethodName := ⟨RX0, "hasPart", "(I)Z"⟩
abbrev cX0_hasReader : ByteArray := prog_2_method_4_code
def yX0_hasReader : MethodName := ⟨RX0, "hasReader", "(I)Z"⟩
abbrev cX0_hasWant : ByteArray := prog_2_method_5_code
def yX0_hasWant : MethodName := ⟨RX0, "hasWant", "(I)Z"⟩
abbrev cX0_ofPart : ByteArray := prog_2_method_6_code
def yX0_ofPart : MethodName := ⟨RX0, "ofPart", "(II)I"⟩
abbrev cX0_ofReader : ByteArray := prog_2_method_7_code
def yX0_ofReader : MethodName := ⟨RX0, "ofReader", "(II)I"⟩
abbrev cX0_ofWant : ByteArray := prog_2_method_8_code
def yX0_ofWant : MethodName := ⟨RX0, "ofWant", "(II)I"⟩
abbrev cX0_addPart : ByteArray := prog_2_method_9_code
def yX0_addPart : MethodName := ⟨RX0, "addPart", "(III)V"⟩
abbrev cX0_addReader : ByteArray := prog_2_method_10_code
def yX0_addReader : MethodName := ⟨RX0, "addReader", "(IIZ)V"⟩
abbrev cX0_addWant : ByteArray := prog_2_method_11_code
def yX0_addWant : MethodName := ⟨RX0, "addWant", "(III)V"⟩
abbrev cX0_forbid : ByteArray := prog_2_method_12_code
def yX0_forbid : MethodName := ⟨RX0, "forbid", "(III)V"⟩
abbrev cX0_cover : ByteArray := prog_2_method_13_code
def yX0_cover : MethodName := ⟨RX0, "cover", "(III)V"⟩
abbrev cX0_wantOf : ByteArray := prog_2_method_14_code
def yX0_wantOf : MethodName := ⟨RX0, "wantOf", "(II)I"⟩
abbrev cX0_worthAt : ByteArray := prog_2_method_15_code
def yX0_worthAt : MethodName := ⟨RX0, "worthAt", "(II)I"⟩
abbrev cX0_coveredFrom : ByteArray := prog_2_method_16_code
def yX0_coveredFrom : MethodName := ⟨RX0, "coveredFrom", "(II)I"⟩
abbrev cX0_comesAfter : ByteArray := prog_2_method_17_code
def yX0_comesAfter : MethodName := ⟨RX0, "comesAfter", "(II[I)Z"⟩
abbrev cX0_latestBegin : ByteArray := prog_2_method_18_code
def yX0_latestBegin : MethodName := ⟨RX0, "latestBegin", "(I)I"⟩
def RX1 : String := "PaperRound$HouseText"
def TX1 : u_T := fun k => match k with
  | 0 => ("PaperRound$HouseText", "bytes", "[I", false)
  | 1 => ("PaperRound$HouseText", "size", "I", false)
  | 2 => ("PaperRound$HouseText", "place", "I", false)
  | 3 => ("PaperRound$HouseText", "number", "I", false)
  | 4 => ("PaperRound$HouseText", "nots", "I", false)
  | 5 => ("PaperRound$HouseText", "cushions", "I", false)
  | _ => ("PaperRound$HouseText", "house", "LPaperRound$House;", false)
def tyX1 : Nat → FieldType := fun k => match k with
  | 0 => .array .int
  | 1 => .int
  | 2 => .int
  | 3 => .int
  | 4 => .int
  | 5 => .int
  | _ => .object "PaperRound$House"
abbrev wsX10 : List Cond := u_ws RX1 TX1 7
theorem nmX1 : ∀ a, a < 7 → ∀ b, b < 7 → a ≠ b → (TX1 a).2.1 ≠ (TX1 b).2.1 := by decide +kernel
theorem tyX1_ok : ∀ k, k < 7 → parseFieldDescriptor (TX1 k).2.2.1 = some (tyX1 k) := by decide +kernel
abbrev cX1_init : ByteArray := prog_3_method_1_code
def yX1_init : MethodName := ⟨RX1, "<init>", "()V"⟩
abbrev cX1_take : ByteArray := prog_3_method_2_code
def yX1_take : MethodName := ⟨RX1, "take", "([IILPaperRound$House;)I"⟩
abbrev cX1_look : ByteArray := prog_3_method_3_code
def yX1_look : MethodName := ⟨RX1, "look", "()I"⟩
abbrev cX1_takeSign : ByteArray := prog_3_method_4_code
def yX1_takeSign : MethodName := ⟨RX1, "takeSign", "(C)Z"⟩
abbrev cX1_figure : ByteArray := prog_3_method_5_code
def yX1_figure : MethodName := ⟨RX1, "figure", "()I"⟩
abbrev cX1_takeFigure : ByteArray := prog_3_method_6_code
def yX1_takeFigure : MethodName := ⟨RX1, "takeFigure", "(II)Z"⟩
abbrev cX1_takeMinute : ByteArray := prog_3_method_7_code
def yX1_takeMinute : MethodName := ⟨RX1, "takeMinute", "(II)Z"⟩
abbrev cX1_takeLast : ByteArray := prog_3_method_8_code
def yX1_takeLast : MethodName := ⟨RX1, "takeLast", "()Z"⟩
abbrev cX1_takePart : ByteArray := prog_3_method_9_code
def yX1_takePart : MethodName := ⟨RX1, "takePart", "()Z"⟩
abbrev cX1_takeReader : ByteArray := prog_3_method_10_code
def yX1_takeReader : MethodName := ⟨RX1, "takeReader", "()Z"⟩
abbrev cX1_takeWant : ByteArray := prog_3_method_11_code
def yX1_takeWant : MethodName := ⟨RX1, "takeWant", "()Z"⟩
abbrev cX1_takeNot : ByteArray := prog_3_method_12_code
def yX1_takeNot : MethodName := ⟨RX1, "takeNot", "()Z"⟩
abbrev cX1_takeCushion : ByteArray := prog_3_method_13_code
def yX1_takeCushion : MethodName := ⟨RX1, "takeCushion", "()Z"⟩
def RX2 : String := "PaperRound$Plan"
def TX2 : u_T := fun k => match k with
  | _ => ("PaperRound$Plan", "begins", "[I", true)
def tyX2 : Nat → FieldType := fun k => match k with
  | _ => .array .int
abbrev wsX20 : List Cond := u_ws RX2 TX2 1
theorem nmX2 : ∀ a, a < 1 → ∀ b, b < 1 → a ≠ b → (TX2 a).2.1 ≠ (TX2 b).2.1 := by decide +kernel
theorem tyX2_ok : ∀ k, k < 1 → parseFieldDescriptor (TX2 k).2.2.1 = some (tyX2 k) := by decide +kernel
abbrev cX2_init : ByteArray := prog_4_method_1_code
def yX2_init : MethodName := ⟨RX2, "<init>", "()V"⟩
abbrev cX2_clear : ByteArray := prog_4_method_2_code
def yX2_clear : MethodName := ⟨RX2, "clear", "()V"⟩
abbrev cX2_become : ByteArray := prog_4_method_3_code
def yX2_become : MethodName := ⟨RX2, "become", "([II)V"⟩
abbrev cX2_isBegunAhead : ByteArray := prog_4_method_4_code
def yX2_isBegunAhead : MethodName := ⟨RX2, "isBegunAhead", "(II)Z"⟩
abbrev cX2_begunAhead : ByteArray := prog_4_method_5_code
def yX2_begunAhead : MethodName := ⟨RX2, "begunAhead", "(LPaperRound$House;I)I"⟩
abbrev cX2_isReadIn : ByteArray := prog_4_method_6_code
def yX2_isReadIn : MethodName := ⟨RX2, "isReadIn", "(LPaperRound$House;II)Z"⟩
abbrev cX2_lossOf : ByteArray := prog_4_method_7_code
def yX2_lossOf : MethodName := ⟨RX2, "lossOf", "(LPaperRound$House;I)I"⟩
abbrev cX2_lossOfAll : ByteArray := prog_4_method_8_code
def yX2_lossOfAll : MethodName := ⟨RX2, "lossOfAll", "(LPaperRound$House;)I"⟩
abbrev cX2_lossBy : ByteArray := prog_4_method_9_code
def yX2_lossBy : MethodName := ⟨RX2, "lossBy", "(LPaperRound$House;I)I"⟩
abbrev cX2_firstWrong : ByteArray := prog_4_method_10_code
def yX2_firstWrong : MethodName := ⟨RX2, "firstWrong", "(LPaperRound$House;)I"⟩
abbrev cX2_firstWrongOf : ByteArray := prog_4_method_11_code
def yX2_firstWrongOf : MethodName := ⟨RX2, "firstWrongOf", "(LPaperRound$House;I)I"⟩
abbrev cX2_isCrowded : ByteArray := prog_4_method_12_code
def yX2_isCrowded : MethodName := ⟨RX2, "isCrowded", "(LPaperRound$House;I)Z"⟩
abbrev cX2_isInOrder : ByteArray := prog_4_method_13_code
def yX2_isInOrder : MethodName := ⟨RX2, "isInOrder", "(LPaperRound$House;I)Z"⟩
def RX3 : String := "PaperRound$Round"
def TX3 : u_T := fun k => match k with
  | 0 => ("PaperRound$Round", "house", "LPaperRound$House;", false)
  | 1 => ("PaperRound$Round", "rule", "LPaperRound$Rule;", false)
  | 2 => ("PaperRound$Round", "begins", "[I", false)
  | 3 => ("PaperRound$Round", "begun", "I", false)
  | 4 => ("PaperRound$Round", "freeFrom", "[I", true)
  | 5 => ("PaperRound$Round", "copyEnd", "[I", true)
  | _ => ("PaperRound$Round", "copyReader", "[I", true)
def tyX3 : Nat → FieldType := fun k => match k with
  | 0 => .object "PaperRound$House"
  | 1 => .object "PaperRound$Rule"
  | 2 => .array .int
  | 3 => .int
  | 4 => .array .int
  | 5 => .array .int
  | _ => .array .int
abbrev wsX30 : List Cond := u_ws RX3 TX3 7
theorem nmX3 : ∀ a, a < 7 → ∀ b, b < 7 → a ≠ b → (TX3 a).2.1 ≠ (TX3 b).2.1 := by decide +kernel
theorem tyX3_ok : ∀ k, k < 7 → parseFieldDescriptor (TX3 k).2.2.1 = some (tyX3 k) := by decide +kernel
abbrev cX3_init : ByteArray := prog_5_method_1_code
def yX3_init : MethodName := ⟨RX3, "<init>", "()V"⟩
abbrev cX3_go : ByteArray := prog_5_method_2_code
def yX3_go : MethodName := ⟨RX3, "go", "(LPaperRound$House;LPaperRound$Rule;LPaperRound$Plan;)V"⟩
abbrev cX3_pick : ByteArray := prog_5_method_3_code
def yX3_pick : MethodName := ⟨RX3, "pick", "(I)I"⟩
abbrev cX3_pickByCard : ByteArray := prog_5_method_4_code
def yX3_pickByCard : MethodName := ⟨RX3, "pickByCard", "(I)I"⟩
abbrev cX3_pickNext : ByteArray := prog_5_method_5_code
def yX3_pickNext : MethodName := ⟨RX3, "pickNext", "(I)I"⟩
abbrev cX3_pickDear : ByteArray := prog_5_method_6_code
def yX3_pickDear : MethodName := ⟨RX3, "pickDear", "(I)I"⟩
abbrev cX3_pickShort : ByteArray := prog_5_method_7_code
def yX3_pickShort : MethodName := ⟨RX3, "pickShort", "(I)I"⟩
abbrev cX3_firstOf : ByteArray := prog_5_method_8_code
def yX3_firstOf : MethodName := ⟨RX3, "firstOf", "(II)I"⟩
abbrev cX3_mayBegin : ByteArray := prog_5_method_9_code
def yX3_mayBegin : MethodName := ⟨RX3, "mayBegin", "(II)Z"⟩
abbrev cX3_isThrough : ByteArray := prog_5_method_10_code
def yX3_isThrough : MethodName := ⟨RX3, "isThrough", "(I)Z"⟩
abbrev cX3_freeCopy : ByteArray := prog_5_method_11_code
def yX3_freeCopy : MethodName := ⟨RX3, "freeCopy", "(II)I"⟩
abbrev cX3_begin : ByteArray := prog_5_method_12_code
def yX3_begin : MethodName := ⟨RX3, "begin", "(II)V"⟩
abbrev cX3_letGo : ByteArray := prog_5_method_13_code
def yX3_letGo : MethodName := ⟨RX3, "letGo", "(I)V"⟩
def RX4 : String := "PaperRound$Rule"
def TX4 : u_T := fun k => match k with
  | 0 => ("PaperRound$Rule", "kind", "I", false)
  | _ => ("PaperRound$Rule", "card", "[I", true)
def tyX4 : Nat → FieldType := fun k => match k with
  | 0 => .int
  | _ => .array .int
abbrev wsX40 : List Cond := u_ws RX4 TX4 2
theorem nmX4 : ∀ a, a < 2 → ∀ b, b < 2 → a ≠ b → (TX4 a).2.1 ≠ (TX4 b).2.1 := by decide +kernel
theorem tyX4_ok : ∀ k, k < 2 → parseFieldDescriptor (TX4 k).2.2.1 = some (tyX4 k) := by decide +kernel
abbrev cX4_init : ByteArray := prog_6_method_1_code
def yX4_init : MethodName := ⟨RX4, "<init>", "()V"⟩
abbrev cX4_isCard : ByteArray := prog_6_method_2_code
def yX4_isCard : MethodName := ⟨RX4, "isCard", "()Z"⟩
abbrev cX4_isOf : ByteArray := prog_6_method_3_code
def yX4_isOf : MethodName := ⟨RX4, "isOf", "(I)Z"⟩
abbrev cX4_beginCard : ByteArray := prog_6_method_4_code
def yX4_beginCard : MethodName := ⟨RX4, "beginCard", "(I)V"⟩
abbrev cX4_nextCard : ByteArray := prog_6_method_5_code
def yX4_nextCard : MethodName := ⟨RX4, "nextCard", "(I)Z"⟩
abbrev cX4_swap : ByteArray := prog_6_method_6_code
def yX4_swap : MethodName := ⟨RX4, "swap", "(II)V"⟩
def RX5 : String := "PaperRound$Search"
def TX5 : u_T := fun k => match k with
  | 0 => ("PaperRound$Search", "bestLoss", "I", false)
  | 1 => ("PaperRound$Search", "bestBegins", "[I", true)
  | 2 => ("PaperRound$Search", "house", "LPaperRound$House;", false)
  | 3 => ("PaperRound$Search", "goal", "I", false)
  | 4 => ("PaperRound$Search", "from", "I", false)
  | 5 => ("PaperRound$Search", "ordersCount", "Z", false)
  | 6 => ("PaperRound$Search", "best", "I", false)
  | 7 => ("PaperRound$Search", "loss", "I", false)
  | 8 => ("PaperRound$Search", "placed", "I", false)
  | 9 => ("PaperRound$Search", "todos", "I", false)
  | 10 => ("PaperRound$Search", "todo", "[I", true)
  | 11 => ("PaperRound$Search", "next", "[[I", true)
  | 12 => ("PaperRound$Search", "lossOf", "[I", true)
  | 13 => ("PaperRound$Search", "hopeOf", "[I", true)
  | 14 => ("PaperRound$Search", "begins", "[I", true)
  | 15 => ("PaperRound$Search", "readerEnd", "[I", true)
  | _ => ("PaperRound$Search", "copyEnd", "[I", true)
def tyX5 : Nat → FieldType := fun k => match k with
  | 0 => .int
  | 1 => .array .int
  | 2 => .object "PaperRound$House"
  | 3 => .int
  | 4 => .int
  | 5 => .boolean
  | 6 => .int
  | 7 => .int
  | 8 => .int
  | 9 => .int
  | 10 => .array .int
  | 11 => .array (.array .int)
  | 12 => .array .int
  | 13 => .array .int
  | 14 => .array .int
  | 15 => .array .int
  | _ => .array .int
abbrev wsX50 : List Cond := u_ws RX5 TX5 17
theorem nmX5 : ∀ a, a < 17 → ∀ b, b < 17 → a ≠ b → (TX5 a).2.1 ≠ (TX5 b).2.1 := by decide +kernel
theorem tyX5_ok : ∀ k, k < 17 → parseFieldDescriptor (TX5 k).2.2.1 = some (tyX5 k) := by decide +kernel
abbrev cX5_init : ByteArray := prog_7_method_1_code
def yX5_init : MethodName := ⟨RX5, "<init>", "()V"⟩
abbrev cX5_start : ByteArray := prog_7_method_2_code
def yX5_start : MethodName := ⟨RX5, "start", "(LPaperRound$House;IZ)V"⟩
abbrev cX5_keep : ByteArray := prog_7_method_3_code
def yX5_keep : MethodName := ⟨RX5, "keep", "(II)V"⟩
abbrev cX5_add : ByteArray := prog_7_method_4_code
def yX5_add : MethodName := ⟨RX5, "add", "(I)V"⟩
abbrev cX5_go : ByteArray := prog_7_method_5_code
def yX5_go : MethodName := ⟨RX5, "go", "(I)I"⟩
abbrev cX5_grow : ByteArray := prog_7_method_6_code
def yX5_grow : MethodName := ⟨RX5, "grow", "(LPaperRound$Search;I)V"⟩
abbrev cX5_weigh : ByteArray := prog_7_method_7_code
def yX5_weigh : MethodName := ⟨RX5, "weigh", "(I)V"⟩
abbrev cX5_hope : ByteArray := prog_7_method_8_code
def yX5_hope : MethodName := ⟨RX5, "hope", "(I)I"⟩
abbrev cX5_worst : ByteArray := prog_7_method_9_code
def yX5_worst : MethodName := ⟨RX5, "worst", "([I)I"⟩
abbrev cX5_isNext : ByteArray := prog_7_method_10_code
def yX5_isNext : MethodName := ⟨RX5, "isNext", "(I)Z"⟩
abbrev cX5_earliest : ByteArray := prog_7_method_11_code
def yX5_earliest : MethodName := ⟨RX5, "earliest", "(I)I"⟩
abbrev cX5_firstCopy : ByteArray := prog_7_method_12_code
def yX5_firstCopy : MethodName := ⟨RX5, "firstCopy", "(I)I"⟩
abbrev cX5_place : ByteArray := prog_7_method_13_code
def yX5_place : MethodName := ⟨RX5, "place", "(III)V"⟩
abbrev cX5_takeBack : ByteArray := prog_7_method_14_code
def yX5_takeBack : MethodName := ⟨RX5, "takeBack", "(II)V"⟩
abbrev cX5_miss : ByteArray := prog_7_method_15_code
def yX5_miss : MethodName := ⟨RX5, "miss", "(II)V"⟩
def RX6 : String := "PaperRound$Shelf"
def TX6 : u_T := fun k => match k with
  | 0 => ("PaperRound$Shelf", "places", "[[I", true)
  | _ => ("PaperRound$Shelf", "sizes", "[I", true)
def tyX6 : Nat → FieldType := fun k => match k with
  | 0 => .array (.array .int)
  | _ => .array .int
abbrev wsX60 : List Cond := u_ws RX6 TX6 2
theorem nmX6 : ∀ a, a < 2 → ∀ b, b < 2 → a ≠ b → (TX6 a).2.1 ≠ (TX6 b).2.1 := by decide +kernel
theorem tyX6_ok : ∀ k, k < 2 → parseFieldDescriptor (TX6 k).2.2.1 = some (tyX6 k) := by decide +kernel
abbrev cX6_init : ByteArray := prog_8_method_1_code
def yX6_init : MethodName := ⟨RX6, "<init>", "(II)V"⟩
abbrev cX6_has : ByteArray := prog_8_method_2_code
def yX6_has : MethodName := ⟨RX6, "has", "(I)Z"⟩
abbrev cX6_isMissing : ByteArray := prog_8_method_3_code
def yX6_isMissing : MethodName := ⟨RX6, "isMissing", "(I)Z"⟩
abbrev cX6_lackAt : ByteArray := prog_8_method_4_code
def yX6_lackAt : MethodName := ⟨RX6, "lackAt", "(II)I"⟩
abbrev cX6_spans : ByteArray := prog_8_method_5_code
def yX6_spans : MethodName := ⟨RX6, "spans", "(III)Z"⟩
abbrev cX6_begin : ByteArray := prog_8_method_6_code
def yX6_begin : MethodName := ⟨RX6, "begin", "(III)V"⟩
abbrev cX6_there : ByteArray := prog_8_method_7_code
def yX6_there : MethodName := ⟨RX6, "there", "()I"⟩
abbrev cX6_digestOn : ByteArray := prog_8_method_8_code
def yX6_digestOn : MethodName := ⟨RX6, "digestOn", "(J)J"⟩
def RX7 : String := "PaperRound"
def TX7 : u_T := fun k => match k with
  | 0 => ("PaperRound", "rows", "LPaperRound$Shelf;", true)
  | 1 => ("PaperRound", "texts", "LPaperRound$Shelf;", true)
  | 2 => ("PaperRound", "houseText", "LPaperRound$HouseText;", true)
  | 3 => ("PaperRound", "plan", "LPaperRound$Plan;", true)
  | 4 => ("PaperRound", "trialPlan", "LPaperRound$Plan;", true)
  | 5 => ("PaperRound", "rules", "[LPaperRound$Rule;", true)
  | 6 => ("PaperRound", "trialRule", "LPaperRound$Rule;", true)
  | 7 => ("PaperRound", "round", "LPaperRound$Round;", true)
  | 8 => ("PaperRound", "search", "LPaperRound$Search;", true)
  | 9 => ("PaperRound", "findings", "[I", true)
  | 10 => ("PaperRound", "house", "LPaperRound$House;", false)
  | 11 => ("PaperRound", "draft", "LPaperRound$House;", false)
  | 12 => ("PaperRound", "finding", "I", false)
  | _ => ("PaperRound", "asked", "I", false)
def tyX7 : Nat → FieldType := fun k => match k with
  | 0 => .object "PaperRound$Shelf"
  | 1 => .object "PaperRound$Shelf"
  | 2 => .object "PaperRound$HouseText"
  | 3 => .object "PaperRound$Plan"
  | 4 => .object "PaperRound$Plan"
  | 5 => .array (.object "PaperRound$Rule")
  | 6 => .object "PaperRound$Rule"
  | 7 => .object "PaperRound$Round"
  | 8 => .object "PaperRound$Search"
  | 9 => .array .int
  | 10 => .object "PaperRound$House"
  | 11 => .object "PaperRound$House"
  | 12 => .int
  | _ => .int
abbrev wsX70 : List Cond := u_ws RX7 TX7 14
theorem nmX7 : ∀ a, a < 14 → ∀ b, b < 14 → a ≠ b → (TX7 a).2.1 ≠ (TX7 b).2.1 := by decide +kernel
theorem tyX7_ok : ∀ k, k < 14 → parseFieldDescriptor (TX7 k).2.2.1 = some (tyX7 k) := by decide +kernel
abbrev cX7_init : ByteArray := prog_1_method_1_code
def yX7_init : MethodName := ⟨RX7, "<init>", "()V"⟩
abbrev cX7_row : ByteArray := prog_1_method_2_code
def yX7_row : MethodName := ⟨RX7, "row", "(II)I"⟩
abbrev cX7_lay : ByteArray := prog_1_method_3_code
def yX7_lay : MethodName := ⟨RX7, "lay", "(III)I"⟩
abbrev cX7_at : ByteArray := prog_1_method_4_code
def yX7_at : MethodName := ⟨RX7, "at", "(II)I"⟩
abbrev cX7_tear : ByteArray := prog_1_method_5_code
def yX7_tear : MethodName := ⟨RX7, "tear", "(I)I"⟩
abbrev cX7_copy : ByteArray := prog_1_method_6_code
def yX7_copy : MethodName := ⟨RX7, "copy", "(IIIII)I"⟩
abbrev cX7_mean : ByteArray := prog_1_method_7_code
def yX7_mean : MethodName := ⟨RX7, "mean", "(I)I"⟩
abbrev cX7_text : ByteArray := prog_1_method_8_code
def yX7_text : MethodName := ⟨RX7, "text", "(II)I"⟩
abbrev cX7_put : ByteArray := prog_1_method_9_code
def yX7_put : MethodName := ⟨RX7, "put", "(III)I"⟩
abbrev cX7_fault : ByteArray := prog_1_method_10_code
def yX7_fault : MethodName := ⟨RX7, "fault", "(I)I"⟩
abbrev cX7_house : ByteArray := prog_1_method_11_code
def yX7_house : MethodName := ⟨RX7, "house", "(I)I"⟩
abbrev cX7_part : ByteArray := prog_1_method_12_code
def yX7_part : MethodName := ⟨RX7, "part", "(II)I"⟩
abbrev cX7_reader : ByteArray := prog_1_method_13_code
def yX7_reader : MethodName := ⟨RX7, "reader", "(II)I"⟩
abbrev cX7_want : ByteArray := prog_1_method_14_code
def yX7_want : MethodName := ⟨RX7, "want", "(II)I"⟩
abbrev cX7_copies : ByteArray := prog_1_method_15_code
def yX7_copies : MethodName := ⟨RX7, "copies", "(II)I"⟩
abbrev cX7_post : ByteArray := prog_1_method_16_code
def yX7_post : MethodName := ⟨RX7, "post", "(III)I"⟩
abbrev cX7_late : ByteArray := prog_1_method_17_code
def yX7_late : MethodName := ⟨RX7, "late", "(III)I"⟩
abbrev cX7_read : ByteArray := prog_1_method_18_code
def yX7_read : MethodName := ⟨RX7, "read", "(II)I"⟩
abbrev cX7_judge : ByteArray := prog_1_method_19_code
def yX7_judge : MethodName := ⟨RX7, "judge", "()I"⟩
abbrev cX7_missed : ByteArray := prog_1_method_20_code
def yX7_missed : MethodName := ⟨RX7, "missed", "(I)I"⟩
abbrev cX7_who : ByteArray := prog_1_method_21_code
def yX7_who : MethodName := ⟨RX7, "who", "(II)I"⟩
abbrev cX7_can : ByteArray := prog_1_method_22_code
def yX7_can : MethodName := ⟨RX7, "can", "(II)I"⟩
abbrev cX7_image : ByteArray := prog_1_method_23_code
def yX7_image : MethodName := ⟨RX7, "image", "(I)I"⟩
abbrev cX7_on : ByteArray := prog_1_method_24_code
def yX7_on : MethodName := ⟨RX7, "on", "(I)I"⟩
abbrev cX7_rule : ByteArray := prog_1_method_25_code
def yX7_rule : MethodName := ⟨RX7, "rule", "(III)I"⟩
abbrev cX7_mark : ByteArray := prog_1_method_26_code
def yX7_mark : MethodName := ⟨RX7, "mark", "(II)I"⟩
abbrev cX7_run : ByteArray := prog_1_method_27_code
def yX7_run : MethodName := ⟨RX7, "run", "(I)I"⟩
abbrev cX7_best : ByteArray := prog_1_method_28_code
def yX7_best : MethodName := ⟨RX7, "best", "(I)I"⟩
abbrev cX7_least : ByteArray := prog_1_method_29_code
def yX7_least : MethodName := ⟨RX7, "least", "()I"⟩
abbrev cX7_mend : ByteArray := prog_1_method_30_code
def yX7_mend : MethodName := ⟨RX7, "mend", "(I)I"⟩
abbrev cX7_soon : ByteArray := prog_1_method_31_code
def yX7_soon : MethodName := ⟨RX7, "soon", "()I"⟩
abbrev cX7_even : ByteArray := prog_1_method_32_code
def yX7_even : MethodName := ⟨RX7, "even", "()I"⟩
abbrev cX7_bound : ByteArray := prog_1_method_33_code
def yX7_bound : MethodName := ⟨RX7, "bound", "()I"⟩
abbrev cX7_quarrel : ByteArray := prog_1_method_34_code
def yX7_quarrel : MethodName := ⟨RX7, "quarrel", "()I"⟩
abbrev cX7_twice : ByteArray := prog_1_method_35_code
def yX7_twice : MethodName := ⟨RX7, "twice", "()I"⟩
abbrev cX7_asked : ByteArray := prog_1_method_36_code
def yX7_asked : MethodName := ⟨RX7, "asked", "()I"⟩
abbrev cX7_count : ByteArray := prog_1_method_37_code
def yX7_count : MethodName := ⟨RX7, "count", "(I)I"⟩
abbrev cX7_finding : ByteArray := prog_1_method_38_code
def yX7_finding : MethodName := ⟨RX7, "finding", "()I"⟩
abbrev cX7_findings : ByteArray := prog_1_method_39_code
def yX7_findings : MethodName := ⟨RX7, "findings", "(I)I"⟩
abbrev cX7_digest : ByteArray := prog_1_method_40_code
def yX7_digest : MethodName := ⟨RX7, "digest", "()J"⟩
abbrev cX7_found : ByteArray := prog_1_method_41_code
def yX7_found : MethodName := ⟨RX7, "found", "(I)I"⟩
abbrev cX7_isBeginning : ByteArray := prog_1_method_42_code
def yX7_isBeginning : MethodName := ⟨RX7, "isBeginning", "(I)Z"⟩
abbrev cX7_ofWant : ByteArray := prog_1_method_43_code
def yX7_ofWant : MethodName := ⟨RX7, "ofWant", "(II)I"⟩
abbrev cX7_lackOfCard : ByteArray := prog_1_method_44_code
def yX7_lackOfCard : MethodName := ⟨RX7, "lackOfCard", "(I)I"⟩
abbrev cX7_rulesThere : ByteArray := prog_1_method_45_code
def yX7_rulesThere : MethodName := ⟨RX7, "rulesThere", "(Z)I"⟩
abbrev cX7_searchAll : ByteArray := prog_1_method_46_code
def yX7_searchAll : MethodName := ⟨RX7, "searchAll", "(I)I"⟩
abbrev cX7_canAllHaveAll : ByteArray := prog_1_method_47_code
def yX7_canAllHaveAll : MethodName := ⟨RX7, "canAllHaveAll", "(I)Z"⟩
abbrev cX7_keepAhead : ByteArray := prog_1_method_48_code
def yX7_keepAhead : MethodName := ⟨RX7, "keepAhead", "(I)V"⟩
abbrev cX7_digestOfHouse : ByteArray := prog_1_method_49_code
def yX7_digestOfHouse : MethodName := ⟨RX7, "digestOfHouse", "(J)J"⟩
def RX8 : String := "PaperRoundModel"
def TX8 : u_T := fun k => match k with
  | 0 => ("PaperRoundModel", "latest", "I", false)
  | 1 => ("PaperRoundModel", "came", "[I", true)
  | 2 => ("PaperRoundModel", "asked", "I", false)
  | 3 => ("PaperRoundModel", "sizes", "[I", true)
  | 4 => ("PaperRoundModel", "rows", "[I", true)
  | 5 => ("PaperRoundModel", "copied", "[I", true)
  | 6 => ("PaperRoundModel", "textSizes", "[I", true)
  | 7 => ("PaperRoundModel", "bytes", "[B", true)
  | 8 => ("PaperRoundModel", "last", "I", false)
  | 9 => ("PaperRoundModel", "partMany", "I", false)
  | 10 => ("PaperRoundModel", "readerMany", "I", false)
  | 11 => ("PaperRoundModel", "wantMany", "I", false)
  | 12 => ("PaperRoundModel", "notMany", "I", false)
  | 13 => ("PaperRoundModel", "cushionMany", "I", false)
  | 14 => ("PaperRoundModel", "parts", "[I", true)
  | 15 => ("PaperRoundModel", "readers", "[I", true)
  | 16 => ("PaperRoundModel", "wants", "[I", true)
  | 17 => ("PaperRoundModel", "nots", "[I", true)
  | 18 => ("PaperRoundModel", "cushions", "[I", true)
  | 19 => ("PaperRoundModel", "readAt", "I", false)
  | 20 => ("PaperRoundModel", "readNumber", "I", false)
  | 21 => ("PaperRoundModel", "readLast", "I", false)
  | 22 => ("PaperRoundModel", "readParts", "I", false)
  | 23 => ("PaperRoundModel", "readReaders", "I", false)
  | 24 => ("PaperRoundModel", "readWants", "I", false)
  | 25 => ("PaperRoundModel", "readNots", "I", false)
  | 26 => ("PaperRoundModel", "readCushions", "I", false)
  | 27 => ("PaperRoundModel", "readPart", "[I", true)
  | 28 => ("PaperRoundModel", "readReader", "[I", true)
  | 29 => ("PaperRoundModel", "readWant", "[I", true)
  | 30 => ("PaperRoundModel", "readNot", "[I", true)
  | 31 => ("PaperRoundModel", "readCushion", "[I", true)
  | 32 => ("PaperRoundModel", "plan", "[I", true)
  | 33 => ("PaperRoundModel", "ruleKind", "[I", true)
  | 34 => ("PaperRoundModel", "cards", "[I", true)
  | 35 => ("PaperRoundModel", "card", "[I", true)
  | 36 => ("PaperRoundModel", "kept", "[I", true)
  | 37 => ("PaperRoundModel", "bestPlan", "[I", true)
  | 38 => ("PaperRoundModel", "copyOf", "[I", true)
  | 39 => ("PaperRoundModel", "looked", "I", false)
  | 40 => ("PaperRoundModel", "begin", "I", false)
  | 41 => ("PaperRoundModel", "ordersCount", "Z", false)
  | 42 => ("PaperRoundModel", "wanted", "I", false)
  | 43 => ("PaperRoundModel", "found", "I", false)
  | 44 => ("PaperRoundModel", "foundMissed", "I", false)
  | 45 => ("PaperRoundModel", "toPlace", "I", false)
  | 46 => ("PaperRoundModel", "tried", "[I", true)
  | _ => ("PaperRoundModel", "h", "J", false)
def tyX8 : Nat → FieldType := fun k => match k with
  | 0 => .int
  | 1 => .array .int
  | 2 => .int
  | 3 => .array .int
  | 4 => .array .int
  | 5 => .array .int
  | 6 => .array .int
  | 7 => .array .byte
  | 8 => .int
  | 9 => .int
  | 10 => .int
  | 11 => .int
  | 12 => .int
  | 13 => .int
  | 14 => .array .int
  | 15 => .array .int
  | 16 => .array .int
  | 17 => .array .int
  | 18 => .array .int
  | 19 => .int
  | 20 => .int
  | 21 => .int
  | 22 => .int
  | 23 => .int
  | 24 => .int
  | 25 => .int
  | 26 => .int
  | 27 => .array .int
  | 28 => .array .int
  | 29 => .array .int
  | 30 => .array .int
  | 31 => .array .int
  | 32 => .array .int
  | 33 => .array .int
  | 34 => .array .int
  | 35 => .array .int
  | 36 => .array .int
  | 37 => .array .int
  | 38 => .array .int
  | 39 => .int
  | 40 => .int
  | 41 => .boolean
  | 42 => .int
  | 43 => .int
  | 44 => .int
  | 45 => .int
  | 46 => .array .int
  | _ => .long
abbrev wsX80 : List Cond := u_ws RX8 TX8 48
theorem nmX8 : ∀ a, a < 48 → ∀ b, b < 48 → a ≠ b → (TX8 a).2.1 ≠ (TX8 b).2.1 := by decide +kernel
theorem tyX8_ok : ∀ k, k < 48 → parseFieldDescriptor (TX8 k).2.2.1 = some (tyX8 k) := by decide +kernel
abbrev cX8_init : ByteArray := prog_10_method_1_code
def yX8_init : MethodName := ⟨RX8, "<init>", "()V"⟩
abbrev cX8_in : ByteArray := prog_10_method_2_code
def yX8_in : MethodName := ⟨RX8, "in", "(III)Z"⟩
abbrev cX8_has : ByteArray := prog_10_method_3_code
def yX8_has : MethodName := ⟨RX8, "has", "(II)Z"⟩
abbrev cX8_bits : ByteArray := prog_10_method_4_code
def yX8_bits : MethodName := ⟨RX8, "bits", "(I)I"⟩
abbrev cX8_greater : ByteArray := prog_10_method_5_code
def yX8_greater : MethodName := ⟨RX8, "greater", "(II)I"⟩
abbrev cX8_meets : ByteArray := prog_10_method_6_code
def yX8_meets : MethodName := ⟨RX8, "meets", "(I)I"⟩
abbrev cX8_finding : ByteArray := prog_10_method_7_code
def yX8_finding : MethodName := ⟨RX8, "finding", "()I"⟩
abbrev cX8_findings : ByteArray := prog_10_method_8_code
def yX8_findings : MethodName := ⟨RX8, "findings", "(I)I"⟩
abbrev cX8_tells : ByteArray := prog_10_method_9_code
def yX8_tells : MethodName := ⟨RX8, "tells", "(II)I"⟩
abbrev cX8_asked : ByteArray := prog_10_method_10_code
def yX8_asked : MethodName := ⟨RX8, "asked", "()I"⟩
abbrev cX8_isRow : ByteArray := prog_10_method_11_code
def yX8_isRow : MethodName := ⟨RX8, "isRow", "(I)Z"⟩
abbrev cX8_rowAt : ByteArray := prog_10_method_12_code
def yX8_rowAt : MethodName := ⟨RX8, "rowAt", "(II)I"⟩
abbrev cX8_row : ByteArray := prog_10_method_13_code
def yX8_row : MethodName := ⟨RX8, "row", "(II)I"⟩
abbrev cX8_lay : ByteArray := prog_10_method_14_code
def yX8_lay : MethodName := ⟨RX8, "lay", "(III)I"⟩
abbrev cX8_at : ByteArray := prog_10_method_15_code
def yX8_at : MethodName := ⟨RX8, "at", "(II)I"⟩
abbrev cX8_tear : ByteArray := prog_10_method_16_code
def yX8_tear : MethodName := ⟨RX8, "tear", "(I)I"⟩
abbrev cX8_copy : ByteArray := prog_10_method_17_code
def yX8_copy : MethodName := ⟨RX8, "copy", "(IIIII)I"⟩
abbrev cX8_mean : ByteArray := prog_10_method_18_code
def yX8_mean : MethodName := ⟨RX8, "mean", "(I)I"⟩
abbrev cX8_isText : ByteArray := prog_10_method_19_code
def yX8_isText : MethodName := ⟨RX8, "isText", "(I)Z"⟩
abbrev cX8_text : ByteArray := prog_10_method_20_code
def yX8_text : MethodName := ⟨RX8, "text", "(II)I"⟩
abbrev cX8_put : ByteArray := prog_10_method_21_code
def yX8_put : MethodName := ⟨RX8, "put", "(III)I"⟩
abbrev cX8_byteAt : ByteArray := prog_10_method_22_code
def yX8_byteAt : MethodName := ⟨RX8, "byteAt", "(II)I"⟩
abbrev cX8_sign : ByteArray := prog_10_method_23_code
def yX8_sign : MethodName := ⟨RX8, "sign", "(II)Z"⟩
abbrev cX8_figure : ByteArray := prog_10_method_24_code
def yX8_figure : MethodName := ⟨RX8, "figure", "(III)Z"⟩
abbrev cX8_minute : ByteArray := prog_10_method_25_code
def yX8_minute : MethodName := ⟨RX8, "minute", "(III)Z"⟩
abbrev cX8_readsLast : ByteArray := prog_10_method_26_code
def yX8_readsLast : MethodName := ⟨RX8, "readsLast", "(I)Z"⟩
abbrev cX8_readsPart : ByteArray := prog_10_method_27_code
def yX8_readsPart : MethodName := ⟨RX8, "readsPart", "(I)Z"⟩
abbrev cX8_readsReader : ByteArray := prog_10_method_28_code
def yX8_readsReader : MethodName := ⟨RX8, "readsReader", "(I)Z"⟩
abbrev cX8_readsWant : ByteArray := prog_10_method_29_code
def yX8_readsWant : MethodName := ⟨RX8, "readsWant", "(II)Z"⟩
abbrev cX8_readsNot : ByteArray := prog_10_method_30_code
def yX8_readsNot : MethodName := ⟨RX8, "readsNot", "(I)Z"⟩
abbrev cX8_readsCushion : ByteArray := prog_10_method_31_code
def yX8_readsCushion : MethodName := ⟨RX8, "readsCushion", "(I)Z"⟩
abbrev cX8_readsItem : ByteArray := prog_10_method_32_code
def yX8_readsItem : MethodName := ⟨RX8, "readsItem", "(I)Z"⟩
abbrev cX8_faultOf : ByteArray := prog_10_method_33_code
def yX8_faultOf : MethodName := ⟨RX8, "faultOf", "(I)I"⟩
abbrev cX8_fault : ByteArray := prog_10_method_34_code
def yX8_fault : MethodName := ⟨RX8, "fault", "(I)I"⟩
abbrev cX8_house : ByteArray := prog_10_method_35_code
def yX8_house : MethodName := ⟨RX8, "house", "(I)I"⟩
abbrev cX8_isPart : ByteArray := prog_10_method_36_code
def yX8_isPart : MethodName := ⟨RX8, "isPart", "(I)Z"⟩
abbrev cX8_isReader : ByteArray := prog_10_method_37_code
def yX8_isReader : MethodName := ⟨RX8, "isReader", "(I)Z"⟩
abbrev cX8_isWant : ByteArray := prog_10_method_38_code
def yX8_isWant : MethodName := ⟨RX8, "isWant", "(I)Z"⟩
abbrev cX8_readerOf : ByteArray := prog_10_method_39_code
def yX8_readerOf : MethodName := ⟨RX8, "readerOf", "(I)I"⟩
abbrev cX8_partOf : ByteArray := prog_10_method_40_code
def yX8_partOf : MethodName := ⟨RX8, "partOf", "(I)I"⟩
abbrev cX8_minutesOf : ByteArray := prog_10_method_41_code
def yX8_minutesOf : MethodName := ⟨RX8, "minutesOf", "(I)I"⟩
abbrev cX8_copiesOf : ByteArray := prog_10_method_42_code
def yX8_copiesOf : MethodName := ⟨RX8, "copiesOf", "(I)I"⟩
abbrev cX8_comesAt : ByteArray := prog_10_method_43_code
def yX8_comesAt : MethodName := ⟨RX8, "comesAt", "(I)I"⟩
abbrev cX8_from : ByteArray := prog_10_method_44_code
def yX8_from : MethodName := ⟨RX8, "from", "(I)I"⟩
abbrev cX8_till : ByteArray := prog_10_method_45_code
def yX8_till : MethodName := ⟨RX8, "till", "(I)I"⟩
abbrev cX8_isInOrder : ByteArray := prog_10_method_46_code
def yX8_isInOrder : MethodName := ⟨RX8, "isInOrder", "(I)Z"⟩
abbrev cX8_isNotAfter : ByteArray := prog_10_method_47_code
def yX8_isNotAfter : MethodName := ⟨RX8, "isNotAfter", "(III)Z"⟩
abbrev cX8_isUnder : ByteArray := prog_10_method_48_code
def yX8_isUnder : MethodName := ⟨RX8, "isUnder", "(III)Z"⟩
abbrev cX8_part : ByteArray := prog_10_method_49_code
def yX8_part : MethodName := ⟨RX8, "part", "(II)I"⟩
abbrev cX8_readerTells : ByteArray := prog_10_method_50_code
def yX8_readerTells : MethodName := ⟨RX8, "readerTells", "(II)I"⟩
abbrev cX8_reader : ByteArray := prog_10_method_51_code
def yX8_reader : MethodName := ⟨RX8, "reader", "(II)I"⟩
abbrev cX8_wantTells : ByteArray := prog_10_method_52_code
def yX8_wantTells : MethodName := ⟨RX8, "wantTells", "(II)I"⟩
abbrev cX8_want : ByteArray := prog_10_method_53_code
def yX8_want : MethodName := ⟨RX8, "want", "(II)I"⟩
abbrev cX8_copies : ByteArray := prog_10_method_54_code
def yX8_copies : MethodName := ⟨RX8, "copies", "(II)I"⟩
abbrev cX8_post : ByteArray := prog_10_method_55_code
def yX8_post : MethodName := ⟨RX8, "post", "(III)I"⟩
abbrev cX8_late : ByteArray := prog_10_method_56_code
def yX8_late : MethodName := ⟨RX8, "late", "(III)I"⟩
abbrev cX8_isRead : ByteArray := prog_10_method_57_code
def yX8_isRead : MethodName := ⟨RX8, "isRead", "(I)Z"⟩
abbrev cX8_endOf : ByteArray := prog_10_method_58_code
def yX8_endOf : MethodName := ⟨RX8, "endOf", "(I)I"⟩
abbrev cX8_isReading : ByteArray := prog_10_method_59_code
def yX8_isReading : MethodName := ⟨RX8, "isReading", "(II)Z"⟩
abbrev cX8_read : ByteArray := prog_10_method_60_code
def yX8_read : MethodName := ⟨RX8, "read", "(II)I"⟩
abbrev cX8_readingMany : ByteArray := prog_10_method_61_code
def yX8_readingMany : MethodName := ⟨RX8, "readingMany", "(II)I"⟩
abbrev cX8_doesRead : ByteArray := prog_10_method_62_code
def yX8_doesRead : MethodName := ⟨RX8, "doesRead", "(III)Z"⟩
abbrev cX8_isDue : ByteArray := prog_10_method_63_code
def yX8_isDue : MethodName := ⟨RX8, "isDue", "(II)Z"⟩
abbrev cX8_isSpoilt : ByteArray := prog_10_method_64_code
def yX8_isSpoilt : MethodName := ⟨RX8, "isSpoilt", "(II)Z"⟩
abbrev cX8_isWell : ByteArray := prog_10_method_65_code
def yX8_isWell : MethodName := ⟨RX8, "isWell", "(II)Z"⟩
abbrev cX8_firstBad : ByteArray := prog_10_method_66_code
def yX8_firstBad : MethodName := ⟨RX8, "firstBad", "()I"⟩
abbrev cX8_judge : ByteArray := prog_10_method_67_code
def yX8_judge : MethodName := ⟨RX8, "judge", "()I"⟩
abbrev cX8_worthAt : ByteArray := prog_10_method_68_code
def yX8_worthAt : MethodName := ⟨RX8, "worthAt", "(II)I"⟩
abbrev cX8_missedOf : ByteArray := prog_10_method_69_code
def yX8_missedOf : MethodName := ⟨RX8, "missedOf", "(I)I"⟩
abbrev cX8_missed : ByteArray := prog_10_method_70_code
def yX8_missed : MethodName := ⟨RX8, "missed", "(I)I"⟩
abbrev cX8_who : ByteArray := prog_10_method_71_code
def yX8_who : MethodName := ⟨RX8, "who", "(II)I"⟩
abbrev cX8_can : ByteArray := prog_10_method_72_code
def yX8_can : MethodName := ⟨RX8, "can", "(II)I"⟩
abbrev cX8_image : ByteArray := prog_10_method_73_code
def yX8_image : MethodName := ⟨RX8, "image", "(I)I"⟩
abbrev cX8_on : ByteArray := prog_10_method_74_code
def yX8_on : MethodName := ⟨RX8, "on", "(I)I"⟩
abbrev cX8_isRule : ByteArray := prog_10_method_75_code
def yX8_isRule : MethodName := ⟨RX8, "isRule", "(I)Z"⟩
abbrev cX8_rule : ByteArray := prog_10_method_76_code
def yX8_rule : MethodName := ⟨RX8, "rule", "(III)I"⟩
abbrev cX8_markOf : ByteArray := prog_10_method_77_code
def yX8_markOf : MethodName := ⟨RX8, "markOf", "(II)I"⟩
abbrev cX8_mark : ByteArray := prog_10_method_78_code
def yX8_mark : MethodName := ⟨RX8, "mark", "(II)I"⟩
abbrev cX8_hasAll : ByteArray := prog_10_method_79_code
def yX8_hasAll : MethodName := ⟨RX8, "hasAll", "(II)Z"⟩
abbrev cX8_takenMany : ByteArray := prog_10_method_80_code
def yX8_takenMany : MethodName := ⟨RX8, "takenMany", "(IIZ)I"⟩
abbrev cX8_may : ByteArray := prog_10_method_81_code
def yX8_may : MethodName := ⟨RX8, "may", "(IIZ)Z"⟩
abbrev cX8_firstOf : ByteArray := prog_10_method_82_code
def yX8_firstOf : MethodName := ⟨RX8, "firstOf", "(IIZ)I"⟩
abbrev cX8_waitsSince : ByteArray := prog_10_method_83_code
def yX8_waitsSince : MethodName := ⟨RX8, "waitsSince", "(I)I"⟩
abbrev cX8_chosen : ByteArray := prog_10_method_84_code
def yX8_chosen : MethodName := ⟨RX8, "chosen", "(II)I"⟩
abbrev cX8_runs : ByteArray := prog_10_method_85_code
def yX8_runs : MethodName := ⟨RX8, "runs", "(I)V"⟩
abbrev cX8_run : ByteArray := prog_10_method_86_code
def yX8_run : MethodName := ⟨RX8, "run", "(I)I"⟩
abbrev cX8_keep : ByteArray := prog_10_method_87_code
def yX8_keep : MethodName := ⟨RX8, "keep", "([I)V"⟩
abbrev cX8_back : ByteArray := prog_10_method_88_code
def yX8_back : MethodName := ⟨RX8, "back", "([I)V"⟩
abbrev cX8_layCard : ByteArray := prog_10_method_89_code
def yX8_layCard : MethodName := ⟨RX8, "layCard", "(I)V"⟩
abbrev cX8_best : ByteArray := prog_10_method_90_code
def yX8_best : MethodName := ⟨RX8, "best", "(I)I"⟩
abbrev cX8_copyEnd : ByteArray := prog_10_method_91_code
def yX8_copyEnd : MethodName := ⟨RX8, "copyEnd", "(II)I"⟩
abbrev cX8_freeCopy : ByteArray := prog_10_method_92_code
def yX8_freeCopy : MethodName := ⟨RX8, "freeCopy", "(I)I"⟩
abbrev cX8_isNext : ByteArray := prog_10_method_93_code
def yX8_isNext : MethodName := ⟨RX8, "isNext", "(I)Z"⟩
abbrev cX8_letsAll : ByteArray := prog_10_method_94_code
def yX8_letsAll : MethodName := ⟨RX8, "letsAll", "(II)Z"⟩
abbrev cX8_places : ByteArray := prog_10_method_95_code
def yX8_places : MethodName := ⟨RX8, "places", "(I)Z"⟩
abbrev cX8_missedLooked : ByteArray := prog_10_method_96_code
def yX8_missedLooked : MethodName := ⟨RX8, "missedLooked", "()I"⟩
abbrev cX8_worst : ByteArray := prog_10_method_97_code
def yX8_worst : MethodName := ⟨RX8, "worst", "()I"⟩
abbrev cX8_lastEnd : ByteArray := prog_10_method_98_code
def yX8_lastEnd : MethodName := ⟨RX8, "lastEnd", "()I"⟩
abbrev cX8_visit : ByteArray := prog_10_method_99_code
def yX8_visit : MethodName := ⟨RX8, "visit", "(I)V"⟩
abbrev cX8_search : ByteArray := prog_10_method_100_code
def yX8_search : MethodName := ⟨RX8, "search", "(I)V"⟩
abbrev cX8_begins : ByteArray := prog_10_method_101_code
def yX8_begins : MethodName := ⟨RX8, "begins", "(I)Z"⟩
abbrev cX8_allWants : ByteArray := prog_10_method_102_code
def yX8_allWants : MethodName := ⟨RX8, "allWants", "()I"⟩
abbrev cX8_least : ByteArray := prog_10_method_103_code
def yX8_least : MethodName := ⟨RX8, "least", "()I"⟩
abbrev cX8_mend : ByteArray := prog_10_method_104_code
def yX8_mend : MethodName := ⟨RX8, "mend", "(I)I"⟩
abbrev cX8_soon : ByteArray := prog_10_method_105_code
def yX8_soon : MethodName := ⟨RX8, "soon", "()I"⟩
abbrev cX8_even : ByteArray := prog_10_method_106_code
def yX8_even : MethodName := ⟨RX8, "even", "()I"⟩
abbrev cX8_bound : ByteArray := prog_10_method_107_code
def yX8_bound : MethodName := ⟨RX8, "bound", "()I"⟩
abbrev cX8_canAll : ByteArray := prog_10_method_108_code
def yX8_canAll : MethodName := ⟨RX8, "canAll", "(I)Z"⟩
abbrev cX8_quarrel : ByteArray := prog_10_method_109_code
def yX8_quarrel : MethodName := ⟨RX8, "quarrel", "()I"⟩
abbrev cX8_twice : ByteArray := prog_10_method_110_code
def yX8_twice : MethodName := ⟨RX8, "twice", "()I"⟩
abbrev cX8_counted : ByteArray := prog_10_method_111_code
def yX8_counted : MethodName := ⟨RX8, "counted", "(I)I"⟩
abbrev cX8_count : ByteArray := prog_10_method_112_code
def yX8_count : MethodName := ⟨RX8, "count", "(I)I"⟩
abbrev cX8_mix : ByteArray := prog_10_method_113_code
def yX8_mix : MethodName := ⟨RX8, "mix", "(J)V"⟩
abbrev cX8_mixHouse : ByteArray := prog_10_method_114_code
def yX8_mixHouse : MethodName := ⟨RX8, "mixHouse", "()V"⟩
abbrev cX8_digest : ByteArray := prog_10_method_115_code
def yX8_digest : MethodName := ⟨RX8, "digest", "()J"⟩
def RJ9 : String := "java/lang/Math"
def RJ10 : String := "java/lang/System"
def RL : String := "PaperRoundLaw"
abbrev cL_law : ByteArray := code
def yL_law : MethodName := ⟨RL, "law", "([I)Z"⟩
abbrev vwCl : List vw_C := [(RX0, TX0, 19), (RX1, TX1, 7), (RX2, TX2, 1), (RX3, TX3, 7), (RX4, TX4, 2), (RX5, TX5, 17), (RX6, TX6, 2), (RX7, TX7, 14), (RX8, TX8, 48)]
