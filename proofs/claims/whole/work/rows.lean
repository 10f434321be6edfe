section
-- ===== PART A: goes FIRST, ahead of the names: the tables' words, and 'selects' of the private methods out of them =====
/-- a private method of a class that the tables say can be made, by its rows of tables_1 -/
def lw_okq (q : MethodName × Nat) : Prop := (q.1.cls ≠ "java/lang/invoke/MethodHandle" ∧ q.1.cls ≠ "java/lang/invoke/VarHandle") ∧ Cond.instantiable q.1.cls q.2 ∈ tables_1 ∧ Cond.privateMethod q.1 ∈ tables_1 ∧ Cond.instanceMethod q.1 ∈ tables_1
theorem lw_p0 : lw_okq (⟨"PaperRound", "found", "(I)I"⟩, 14) := ⟨⟨by decide +kernel, by decide +kernel⟩, List.mem_of_getElem? (i := 13) (by decide +kernel), List.mem_of_getElem? (i := 349) (by decide +kernel), List.mem_of_getElem? (i := 350) (by decide +kernel)⟩
theorem lw_p1 : lw_okq (⟨"PaperRound$HouseText", "look", "()I"⟩, 7) := ⟨⟨by decide +kernel, by decide +kernel⟩, List.mem_of_getElem? (i := 39) (by decide +kernel), List.mem_of_getElem? (i := 413) (by decide +kernel), List.mem_of_getElem? (i := 414) (by decide +kernel)⟩
theorem lw_p2 : lw_okq (⟨"PaperRound$HouseText", "takeSign", "(C)Z"⟩, 7) := ⟨⟨by decide +kernel, by decide +kernel⟩, List.mem_of_getElem? (i := 39) (by decide +kernel), List.mem_of_getElem? (i := 417) (by decide +kernel), List.mem_of_getElem? (i := 418) (by decide +kernel)⟩
theorem lw_p3 : lw_okq (⟨"PaperRound$HouseText", "takeLast", "()Z"⟩, 7) := ⟨⟨by decide +kernel, by decide +kernel⟩, List.mem_of_getElem? (i := 39) (by decide +kernel), List.mem_of_getElem? (i := 421) (by decide +kernel), List.mem_of_getElem? (i := 422) (by decide +kernel)⟩
theorem lw_p4 : lw_okq (⟨"PaperRound$HouseText", "takeMinute", "(II)Z"⟩, 7) := ⟨⟨by decide +kernel, by decide +kernel⟩, List.mem_of_getElem? (i := 39) (by decide +kernel), List.mem_of_getElem? (i := 425) (by decide +kernel), List.mem_of_getElem? (i := 426) (by decide +kernel)⟩
theorem lw_p5 : lw_okq (⟨"PaperRound$HouseText", "figure", "()I"⟩, 7) := ⟨⟨by decide +kernel, by decide +kernel⟩, List.mem_of_getElem? (i := 39) (by decide +kernel), List.mem_of_getElem? (i := 429) (by decide +kernel), List.mem_of_getElem? (i := 430) (by decide +kernel)⟩
theorem lw_p6 : lw_okq (⟨"PaperRound$HouseText", "takePart", "()Z"⟩, 7) := ⟨⟨by decide +kernel, by decide +kernel⟩, List.mem_of_getElem? (i := 39) (by decide +kernel), List.mem_of_getElem? (i := 433) (by decide +kernel), List.mem_of_getElem? (i := 434) (by decide +kernel)⟩
theorem lw_p7 : lw_okq (⟨"PaperRound$HouseText", "takeFigure", "(II)Z"⟩, 7) := ⟨⟨by decide +kernel, by decide +kernel⟩, List.mem_of_getElem? (i := 39) (by decide +kernel), List.mem_of_getElem? (i := 437) (by decide +kernel), List.mem_of_getElem? (i := 438) (by decide +kernel)⟩
theorem lw_p8 : lw_okq (⟨"PaperRound$HouseText", "takeReader", "()Z"⟩, 7) := ⟨⟨by decide +kernel, by decide +kernel⟩, List.mem_of_getElem? (i := 39) (by decide +kernel), List.mem_of_getElem? (i := 445) (by decide +kernel), List.mem_of_getElem? (i := 446) (by decide +kernel)⟩
theorem lw_p9 : lw_okq (⟨"PaperRound$HouseText", "takeWant", "()Z"⟩, 7) := ⟨⟨by decide +kernel, by decide +kernel⟩, List.mem_of_getElem? (i := 39) (by decide +kernel), List.mem_of_getElem? (i := 453) (by decide +kernel), List.mem_of_getElem? (i := 454) (by decide +kernel)⟩
theorem lw_p10 : lw_okq (⟨"PaperRound$HouseText", "takeNot", "()Z"⟩, 7) := ⟨⟨by decide +kernel, by decide +kernel⟩, List.mem_of_getElem? (i := 39) (by decide +kernel), List.mem_of_getElem? (i := 469) (by decide +kernel), List.mem_of_getElem? (i := 470) (by decide +kernel)⟩
theorem lw_p11 : lw_okq (⟨"PaperRound$HouseText", "takeCushion", "()Z"⟩, 7) := ⟨⟨by decide +kernel, by decide +kernel⟩, List.mem_of_getElem? (i := 39) (by decide +kernel), List.mem_of_getElem? (i := 478) (by decide +kernel), List.mem_of_getElem? (i := 479) (by decide +kernel)⟩
theorem lw_p12 : lw_okq (⟨"PaperRound", "ofWant", "(II)I"⟩, 14) := ⟨⟨by decide +kernel, by decide +kernel⟩, List.mem_of_getElem? (i := 13) (by decide +kernel), List.mem_of_getElem? (i := 523) (by decide +kernel), List.mem_of_getElem? (i := 524) (by decide +kernel)⟩
theorem lw_p13 : lw_okq (⟨"PaperRound$Plan", "firstWrongOf", "(LPaperRound$House;I)I"⟩, 1) := ⟨⟨by decide +kernel, by decide +kernel⟩, List.mem_of_getElem? (i := 67) (by decide +kernel), List.mem_of_getElem? (i := 558) (by decide +kernel), List.mem_of_getElem? (i := 559) (by decide +kernel)⟩
theorem lw_p14 : lw_okq (⟨"PaperRound$Plan", "isCrowded", "(LPaperRound$House;I)Z"⟩, 1) := ⟨⟨by decide +kernel, by decide +kernel⟩, List.mem_of_getElem? (i := 67) (by decide +kernel), List.mem_of_getElem? (i := 562) (by decide +kernel), List.mem_of_getElem? (i := 563) (by decide +kernel)⟩
theorem lw_p15 : lw_okq (⟨"PaperRound$Plan", "isInOrder", "(LPaperRound$House;I)Z"⟩, 1) := ⟨⟨by decide +kernel, by decide +kernel⟩, List.mem_of_getElem? (i := 67) (by decide +kernel), List.mem_of_getElem? (i := 570) (by decide +kernel), List.mem_of_getElem? (i := 571) (by decide +kernel)⟩
def lw_privs_1 : List (MethodName × Nat) := [(⟨"PaperRound", "found", "(I)I"⟩, 14), (⟨"PaperRound$HouseText", "look", "()I"⟩, 7), (⟨"PaperRound$HouseText", "takeSign", "(C)Z"⟩, 7), (⟨"PaperRound$HouseText", "takeLast", "()Z"⟩, 7), (⟨"PaperRound$HouseText", "takeMinute", "(II)Z"⟩, 7), (⟨"PaperRound$HouseText", "figure", "()I"⟩, 7), (⟨"PaperRound$HouseText", "takePart", "()Z"⟩, 7), (⟨"PaperRound$HouseText", "takeFigure", "(II)Z"⟩, 7), (⟨"PaperRound$HouseText", "takeReader", "()Z"⟩, 7), (⟨"PaperRound$HouseText", "takeWant", "()Z"⟩, 7), (⟨"PaperRound$HouseText", "takeNot", "()Z"⟩, 7), (⟨"PaperRound$HouseText", "takeCushion", "()Z"⟩, 7), (⟨"PaperRound", "ofWant", "(II)I"⟩, 14), (⟨"PaperRound$Plan", "firstWrongOf", "(LPaperRound$House;I)I"⟩, 1), (⟨"PaperRound$Plan", "isCrowded", "(LPaperRound$House;I)Z"⟩, 1), (⟨"PaperRound$Plan", "isInOrder", "(LPaperRound$House;I)Z"⟩, 1)]
theorem lw_r1 : ∀ q ∈ lw_privs_1, lw_okq q := List.forall_mem_cons.mpr ⟨lw_p0, List.forall_mem_cons.mpr ⟨lw_p1, List.forall_mem_cons.mpr ⟨lw_p2, List.forall_mem_cons.mpr ⟨lw_p3, List.forall_mem_cons.mpr ⟨lw_p4, List.forall_mem_cons.mpr ⟨lw_p5, List.forall_mem_cons.mpr ⟨lw_p6, List.forall_mem_cons.mpr ⟨lw_p7, List.forall_mem_cons.mpr ⟨lw_p8, List.forall_mem_cons.mpr ⟨lw_p9, List.forall_mem_cons.mpr ⟨lw_p10, List.forall_mem_cons.mpr ⟨lw_p11, List.forall_mem_cons.mpr ⟨lw_p12, List.forall_mem_cons.mpr ⟨lw_p13, List.forall_mem_cons.mpr ⟨lw_p14, List.forall_mem_cons.mpr ⟨lw_p15, fun _ h => absurd h List.not_mem_nil⟩⟩⟩⟩⟩⟩⟩⟩⟩⟩⟩⟩⟩⟩⟩⟩
theorem lw_p16 : lw_okq (⟨"PaperRound$Plan", "lossBy", "(LPaperRound$House;I)I"⟩, 1) := ⟨⟨by decide +kernel, by decide +kernel⟩, List.mem_of_getElem? (i := 67) (by decide +kernel), List.mem_of_getElem? (i := 601) (by decide +kernel), List.mem_of_getElem? (i := 602) (by decide +kernel)⟩
theorem lw_p17 : lw_okq (⟨"PaperRound", "lackOfCard", "(I)I"⟩, 14) := ⟨⟨by decide +kernel, by decide +kernel⟩, List.mem_of_getElem? (i := 13) (by decide +kernel), List.mem_of_getElem? (i := 639) (by decide +kernel), List.mem_of_getElem? (i := 640) (by decide +kernel)⟩
theorem lw_p18 : lw_okq (⟨"PaperRound$Round", "pick", "(I)I"⟩, 7) := ⟨⟨by decide +kernel, by decide +kernel⟩, List.mem_of_getElem? (i := 97) (by decide +kernel), List.mem_of_getElem? (i := 664) (by decide +kernel), List.mem_of_getElem? (i := 665) (by decide +kernel)⟩
theorem lw_p19 : lw_okq (⟨"PaperRound$Round", "pickNext", "(I)I"⟩, 7) := ⟨⟨by decide +kernel, by decide +kernel⟩, List.mem_of_getElem? (i := 97) (by decide +kernel), List.mem_of_getElem? (i := 668) (by decide +kernel), List.mem_of_getElem? (i := 669) (by decide +kernel)⟩
theorem lw_p20 : lw_okq (⟨"PaperRound$Round", "firstOf", "(II)I"⟩, 7) := ⟨⟨by decide +kernel, by decide +kernel⟩, List.mem_of_getElem? (i := 97) (by decide +kernel), List.mem_of_getElem? (i := 672) (by decide +kernel), List.mem_of_getElem? (i := 673) (by decide +kernel)⟩
theorem lw_p21 : lw_okq (⟨"PaperRound$Round", "isThrough", "(I)Z"⟩, 7) := ⟨⟨by decide +kernel, by decide +kernel⟩, List.mem_of_getElem? (i := 97) (by decide +kernel), List.mem_of_getElem? (i := 677) (by decide +kernel), List.mem_of_getElem? (i := 678) (by decide +kernel)⟩
theorem lw_p22 : lw_okq (⟨"PaperRound$Round", "mayBegin", "(II)Z"⟩, 7) := ⟨⟨by decide +kernel, by decide +kernel⟩, List.mem_of_getElem? (i := 97) (by decide +kernel), List.mem_of_getElem? (i := 681) (by decide +kernel), List.mem_of_getElem? (i := 682) (by decide +kernel)⟩
theorem lw_p23 : lw_okq (⟨"PaperRound$Round", "freeCopy", "(II)I"⟩, 7) := ⟨⟨by decide +kernel, by decide +kernel⟩, List.mem_of_getElem? (i := 97) (by decide +kernel), List.mem_of_getElem? (i := 686) (by decide +kernel), List.mem_of_getElem? (i := 687) (by decide +kernel)⟩
theorem lw_p24 : lw_okq (⟨"PaperRound$Round", "pickDear", "(I)I"⟩, 7) := ⟨⟨by decide +kernel, by decide +kernel⟩, List.mem_of_getElem? (i := 97) (by decide +kernel), List.mem_of_getElem? (i := 692) (by decide +kernel), List.mem_of_getElem? (i := 693) (by decide +kernel)⟩
theorem lw_p25 : lw_okq (⟨"PaperRound$Round", "pickShort", "(I)I"⟩, 7) := ⟨⟨by decide +kernel, by decide +kernel⟩, List.mem_of_getElem? (i := 97) (by decide +kernel), List.mem_of_getElem? (i := 697) (by decide +kernel), List.mem_of_getElem? (i := 698) (by decide +kernel)⟩
theorem lw_p26 : lw_okq (⟨"PaperRound$Round", "pickByCard", "(I)I"⟩, 7) := ⟨⟨by decide +kernel, by decide +kernel⟩, List.mem_of_getElem? (i := 97) (by decide +kernel), List.mem_of_getElem? (i := 701) (by decide +kernel), List.mem_of_getElem? (i := 702) (by decide +kernel)⟩
theorem lw_p27 : lw_okq (⟨"PaperRound$Round", "begin", "(II)V"⟩, 7) := ⟨⟨by decide +kernel, by decide +kernel⟩, List.mem_of_getElem? (i := 97) (by decide +kernel), List.mem_of_getElem? (i := 705) (by decide +kernel), List.mem_of_getElem? (i := 706) (by decide +kernel)⟩
theorem lw_p28 : lw_okq (⟨"PaperRound$Round", "letGo", "(I)V"⟩, 7) := ⟨⟨by decide +kernel, by decide +kernel⟩, List.mem_of_getElem? (i := 97) (by decide +kernel), List.mem_of_getElem? (i := 709) (by decide +kernel), List.mem_of_getElem? (i := 710) (by decide +kernel)⟩
theorem lw_p29 : lw_okq (⟨"PaperRound$Rule", "swap", "(II)V"⟩, 2) := ⟨⟨by decide +kernel, by decide +kernel⟩, List.mem_of_getElem? (i := 80) (by decide +kernel), List.mem_of_getElem? (i := 727) (by decide +kernel), List.mem_of_getElem? (i := 728) (by decide +kernel)⟩
theorem lw_p30 : lw_okq (⟨"PaperRound", "searchAll", "(I)I"⟩, 14) := ⟨⟨by decide +kernel, by decide +kernel⟩, List.mem_of_getElem? (i := 13) (by decide +kernel), List.mem_of_getElem? (i := 735) (by decide +kernel), List.mem_of_getElem? (i := 736) (by decide +kernel)⟩
theorem lw_p31 : lw_okq (⟨"PaperRound$Search", "miss", "(II)V"⟩, 17) := ⟨⟨by decide +kernel, by decide +kernel⟩, List.mem_of_getElem? (i := 125) (by decide +kernel), List.mem_of_getElem? (i := 747) (by decide +kernel), List.mem_of_getElem? (i := 748) (by decide +kernel)⟩
def lw_privs_2 : List (MethodName × Nat) := [(⟨"PaperRound$Plan", "lossBy", "(LPaperRound$House;I)I"⟩, 1), (⟨"PaperRound", "lackOfCard", "(I)I"⟩, 14), (⟨"PaperRound$Round", "pick", "(I)I"⟩, 7), (⟨"PaperRound$Round", "pickNext", "(I)I"⟩, 7), (⟨"PaperRound$Round", "firstOf", "(II)I"⟩, 7), (⟨"PaperRound$Round", "isThrough", "(I)Z"⟩, 7), (⟨"PaperRound$Round", "mayBegin", "(II)Z"⟩, 7), (⟨"PaperRound$Round", "freeCopy", "(II)I"⟩, 7), (⟨"PaperRound$Round", "pickDear", "(I)I"⟩, 7), (⟨"PaperRound$Round", "pickShort", "(I)I"⟩, 7), (⟨"PaperRound$Round", "pickByCard", "(I)I"⟩, 7), (⟨"PaperRound$Round", "begin", "(II)V"⟩, 7), (⟨"PaperRound$Round", "letGo", "(I)V"⟩, 7), (⟨"PaperRound$Rule", "swap", "(II)V"⟩, 2), (⟨"PaperRound", "searchAll", "(I)I"⟩, 14), (⟨"PaperRound$Search", "miss", "(II)V"⟩, 17)]
theorem lw_r2 : ∀ q ∈ lw_privs_2, lw_okq q := List.forall_mem_cons.mpr ⟨lw_p16, List.forall_mem_cons.mpr ⟨lw_p17, List.forall_mem_cons.mpr ⟨lw_p18, List.forall_mem_cons.mpr ⟨lw_p19, List.forall_mem_cons.mpr ⟨lw_p20, List.forall_mem_cons.mpr ⟨lw_p21, List.forall_mem_cons.mpr ⟨lw_p22, List.forall_mem_cons.mpr ⟨lw_p23, List.forall_mem_cons.mpr ⟨lw_p24, List.forall_mem_cons.mpr ⟨lw_p25, List.forall_mem_cons.mpr ⟨lw_p26, List.forall_mem_cons.mpr ⟨lw_p27, List.forall_mem_cons.mpr ⟨lw_p28, List.forall_mem_cons.mpr ⟨lw_p29, List.forall_mem_cons.mpr ⟨lw_p30, List.forall_mem_cons.mpr ⟨lw_p31, fun _ h => absurd h List.not_mem_nil⟩⟩⟩⟩⟩⟩⟩⟩⟩⟩⟩⟩⟩⟩⟩⟩
theorem lw_p32 : lw_okq (⟨"PaperRound$Search", "weigh", "(I)V"⟩, 17) := ⟨⟨by decide +kernel, by decide +kernel⟩, List.mem_of_getElem? (i := 125) (by decide +kernel), List.mem_of_getElem? (i := 759) (by decide +kernel), List.mem_of_getElem? (i := 760) (by decide +kernel)⟩
theorem lw_p33 : lw_okq (⟨"PaperRound$Search", "hope", "(I)I"⟩, 17) := ⟨⟨by decide +kernel, by decide +kernel⟩, List.mem_of_getElem? (i := 125) (by decide +kernel), List.mem_of_getElem? (i := 767) (by decide +kernel), List.mem_of_getElem? (i := 768) (by decide +kernel)⟩
theorem lw_p34 : lw_okq (⟨"PaperRound$Search", "earliest", "(I)I"⟩, 17) := ⟨⟨by decide +kernel, by decide +kernel⟩, List.mem_of_getElem? (i := 125) (by decide +kernel), List.mem_of_getElem? (i := 771) (by decide +kernel), List.mem_of_getElem? (i := 772) (by decide +kernel)⟩
theorem lw_p35 : lw_okq (⟨"PaperRound$Search", "firstCopy", "(I)I"⟩, 17) := ⟨⟨by decide +kernel, by decide +kernel⟩, List.mem_of_getElem? (i := 125) (by decide +kernel), List.mem_of_getElem? (i := 775) (by decide +kernel), List.mem_of_getElem? (i := 776) (by decide +kernel)⟩
theorem lw_p36 : lw_okq (⟨"PaperRound$Search", "isNext", "(I)Z"⟩, 17) := ⟨⟨by decide +kernel, by decide +kernel⟩, List.mem_of_getElem? (i := 125) (by decide +kernel), List.mem_of_getElem? (i := 783) (by decide +kernel), List.mem_of_getElem? (i := 784) (by decide +kernel)⟩
theorem lw_p37 : lw_okq (⟨"PaperRound$Search", "place", "(III)V"⟩, 17) := ⟨⟨by decide +kernel, by decide +kernel⟩, List.mem_of_getElem? (i := 125) (by decide +kernel), List.mem_of_getElem? (i := 787) (by decide +kernel), List.mem_of_getElem? (i := 788) (by decide +kernel)⟩
theorem lw_p38 : lw_okq (⟨"PaperRound$Search", "takeBack", "(II)V"⟩, 17) := ⟨⟨by decide +kernel, by decide +kernel⟩, List.mem_of_getElem? (i := 125) (by decide +kernel), List.mem_of_getElem? (i := 791) (by decide +kernel), List.mem_of_getElem? (i := 792) (by decide +kernel)⟩
theorem lw_p39 : lw_okq (⟨"PaperRound", "keepAhead", "(I)V"⟩, 14) := ⟨⟨by decide +kernel, by decide +kernel⟩, List.mem_of_getElem? (i := 13) (by decide +kernel), List.mem_of_getElem? (i := 807) (by decide +kernel), List.mem_of_getElem? (i := 808) (by decide +kernel)⟩
theorem lw_p40 : lw_okq (⟨"PaperRound", "canAllHaveAll", "(I)Z"⟩, 14) := ⟨⟨by decide +kernel, by decide +kernel⟩, List.mem_of_getElem? (i := 13) (by decide +kernel), List.mem_of_getElem? (i := 832) (by decide +kernel), List.mem_of_getElem? (i := 833) (by decide +kernel)⟩
theorem lw_p41 : lw_okq (⟨"PaperRound", "rulesThere", "(Z)I"⟩, 14) := ⟨⟨by decide +kernel, by decide +kernel⟩, List.mem_of_getElem? (i := 13) (by decide +kernel), List.mem_of_getElem? (i := 848) (by decide +kernel), List.mem_of_getElem? (i := 849) (by decide +kernel)⟩
theorem lw_p42 : lw_okq (⟨"PaperRound", "digestOfHouse", "(J)J"⟩, 14) := ⟨⟨by decide +kernel, by decide +kernel⟩, List.mem_of_getElem? (i := 13) (by decide +kernel), List.mem_of_getElem? (i := 871) (by decide +kernel), List.mem_of_getElem? (i := 872) (by decide +kernel)⟩
theorem lw_p43 : lw_okq (⟨"PaperRoundModel", "meets", "(I)I"⟩, 48) := ⟨⟨by decide +kernel, by decide +kernel⟩, List.mem_of_getElem? (i := 880) (by decide +kernel), List.mem_of_getElem? (i := 1054) (by decide +kernel), List.mem_of_getElem? (i := 1055) (by decide +kernel)⟩
theorem lw_p44 : lw_okq (⟨"PaperRoundModel", "rowAt", "(II)I"⟩, 48) := ⟨⟨by decide +kernel, by decide +kernel⟩, List.mem_of_getElem? (i := 880) (by decide +kernel), List.mem_of_getElem? (i := 1062) (by decide +kernel), List.mem_of_getElem? (i := 1063) (by decide +kernel)⟩
theorem lw_p45 : lw_okq (⟨"PaperRoundModel", "tells", "(II)I"⟩, 48) := ⟨⟨by decide +kernel, by decide +kernel⟩, List.mem_of_getElem? (i := 880) (by decide +kernel), List.mem_of_getElem? (i := 1066) (by decide +kernel), List.mem_of_getElem? (i := 1067) (by decide +kernel)⟩
theorem lw_p46 : lw_okq (⟨"PaperRoundModel", "faultOf", "(I)I"⟩, 48) := ⟨⟨by decide +kernel, by decide +kernel⟩, List.mem_of_getElem? (i := 880) (by decide +kernel), List.mem_of_getElem? (i := 1101) (by decide +kernel), List.mem_of_getElem? (i := 1102) (by decide +kernel)⟩
theorem lw_p47 : lw_okq (⟨"PaperRoundModel", "byteAt", "(II)I"⟩, 48) := ⟨⟨by decide +kernel, by decide +kernel⟩, List.mem_of_getElem? (i := 880) (by decide +kernel), List.mem_of_getElem? (i := 1105) (by decide +kernel), List.mem_of_getElem? (i := 1106) (by decide +kernel)⟩
def lw_privs_3 : List (MethodName × Nat) := [(⟨"PaperRound$Search", "weigh", "(I)V"⟩, 17), (⟨"PaperRound$Search", "hope", "(I)I"⟩, 17), (⟨"PaperRound$Search", "earliest", "(I)I"⟩, 17), (⟨"PaperRound$Search", "firstCopy", "(I)I"⟩, 17), (⟨"PaperRound$Search", "isNext", "(I)Z"⟩, 17), (⟨"PaperRound$Search", "place", "(III)V"⟩, 17), (⟨"PaperRound$Search", "takeBack", "(II)V"⟩, 17), (⟨"PaperRound", "keepAhead", "(I)V"⟩, 14), (⟨"PaperRound", "canAllHaveAll", "(I)Z"⟩, 14), (⟨"PaperRound", "rulesThere", "(Z)I"⟩, 14), (⟨"PaperRound", "digestOfHouse", "(J)J"⟩, 14), (⟨"PaperRoundModel", "meets", "(I)I"⟩, 48), (⟨"PaperRoundModel", "rowAt", "(II)I"⟩, 48), (⟨"PaperRoundModel", "tells", "(II)I"⟩, 48), (⟨"PaperRoundModel", "faultOf", "(I)I"⟩, 48), (⟨"PaperRoundModel", "byteAt", "(II)I"⟩, 48)]
theorem lw_r3 : ∀ q ∈ lw_privs_3, lw_okq q := List.forall_mem_cons.mpr ⟨lw_p32, List.forall_mem_cons.mpr ⟨lw_p33, List.forall_mem_cons.mpr ⟨lw_p34, List.forall_mem_cons.mpr ⟨lw_p35, List.forall_mem_cons.mpr ⟨lw_p36, List.forall_mem_cons.mpr ⟨lw_p37, List.forall_mem_cons.mpr ⟨lw_p38, List.forall_mem_cons.mpr ⟨lw_p39, List.forall_mem_cons.mpr ⟨lw_p40, List.forall_mem_cons.mpr ⟨lw_p41, List.forall_mem_cons.mpr ⟨lw_p42, List.forall_mem_cons.mpr ⟨lw_p43, List.forall_mem_cons.mpr ⟨lw_p44, List.forall_mem_cons.mpr ⟨lw_p45, List.forall_mem_cons.mpr ⟨lw_p46, List.forall_mem_cons.mpr ⟨lw_p47, fun _ h => absurd h List.not_mem_nil⟩⟩⟩⟩⟩⟩⟩⟩⟩⟩⟩⟩⟩⟩⟩⟩
theorem lw_p48 : lw_okq (⟨"PaperRoundModel", "readsItem", "(I)Z"⟩, 48) := ⟨⟨by decide +kernel, by decide +kernel⟩, List.mem_of_getElem? (i := 880) (by decide +kernel), List.mem_of_getElem? (i := 1109) (by decide +kernel), List.mem_of_getElem? (i := 1110) (by decide +kernel)⟩
theorem lw_p49 : lw_okq (⟨"PaperRoundModel", "readsLast", "(I)Z"⟩, 48) := ⟨⟨by decide +kernel, by decide +kernel⟩, List.mem_of_getElem? (i := 880) (by decide +kernel), List.mem_of_getElem? (i := 1113) (by decide +kernel), List.mem_of_getElem? (i := 1114) (by decide +kernel)⟩
theorem lw_p50 : lw_okq (⟨"PaperRoundModel", "minute", "(III)Z"⟩, 48) := ⟨⟨by decide +kernel, by decide +kernel⟩, List.mem_of_getElem? (i := 880) (by decide +kernel), List.mem_of_getElem? (i := 1117) (by decide +kernel), List.mem_of_getElem? (i := 1118) (by decide +kernel)⟩
theorem lw_p51 : lw_okq (⟨"PaperRoundModel", "readsPart", "(I)Z"⟩, 48) := ⟨⟨by decide +kernel, by decide +kernel⟩, List.mem_of_getElem? (i := 880) (by decide +kernel), List.mem_of_getElem? (i := 1121) (by decide +kernel), List.mem_of_getElem? (i := 1122) (by decide +kernel)⟩
theorem lw_p52 : lw_okq (⟨"PaperRoundModel", "figure", "(III)Z"⟩, 48) := ⟨⟨by decide +kernel, by decide +kernel⟩, List.mem_of_getElem? (i := 880) (by decide +kernel), List.mem_of_getElem? (i := 1125) (by decide +kernel), List.mem_of_getElem? (i := 1126) (by decide +kernel)⟩
theorem lw_p53 : lw_okq (⟨"PaperRoundModel", "sign", "(II)Z"⟩, 48) := ⟨⟨by decide +kernel, by decide +kernel⟩, List.mem_of_getElem? (i := 880) (by decide +kernel), List.mem_of_getElem? (i := 1129) (by decide +kernel), List.mem_of_getElem? (i := 1130) (by decide +kernel)⟩
theorem lw_p54 : lw_okq (⟨"PaperRoundModel", "readsReader", "(I)Z"⟩, 48) := ⟨⟨by decide +kernel, by decide +kernel⟩, List.mem_of_getElem? (i := 880) (by decide +kernel), List.mem_of_getElem? (i := 1133) (by decide +kernel), List.mem_of_getElem? (i := 1134) (by decide +kernel)⟩
theorem lw_p55 : lw_okq (⟨"PaperRoundModel", "readsWant", "(II)Z"⟩, 48) := ⟨⟨by decide +kernel, by decide +kernel⟩, List.mem_of_getElem? (i := 880) (by decide +kernel), List.mem_of_getElem? (i := 1140) (by decide +kernel), List.mem_of_getElem? (i := 1141) (by decide +kernel)⟩
theorem lw_p56 : lw_okq (⟨"PaperRoundModel", "readsNot", "(I)Z"⟩, 48) := ⟨⟨by decide +kernel, by decide +kernel⟩, List.mem_of_getElem? (i := 880) (by decide +kernel), List.mem_of_getElem? (i := 1144) (by decide +kernel), List.mem_of_getElem? (i := 1145) (by decide +kernel)⟩
theorem lw_p57 : lw_okq (⟨"PaperRoundModel", "readsCushion", "(I)Z"⟩, 48) := ⟨⟨by decide +kernel, by decide +kernel⟩, List.mem_of_getElem? (i := 880) (by decide +kernel), List.mem_of_getElem? (i := 1148) (by decide +kernel), List.mem_of_getElem? (i := 1149) (by decide +kernel)⟩
theorem lw_p58 : lw_okq (⟨"PaperRoundModel", "isPart", "(I)Z"⟩, 48) := ⟨⟨by decide +kernel, by decide +kernel⟩, List.mem_of_getElem? (i := 880) (by decide +kernel), List.mem_of_getElem? (i := 1160) (by decide +kernel), List.mem_of_getElem? (i := 1161) (by decide +kernel)⟩
theorem lw_p59 : lw_okq (⟨"PaperRoundModel", "isReader", "(I)Z"⟩, 48) := ⟨⟨by decide +kernel, by decide +kernel⟩, List.mem_of_getElem? (i := 880) (by decide +kernel), List.mem_of_getElem? (i := 1168) (by decide +kernel), List.mem_of_getElem? (i := 1169) (by decide +kernel)⟩
theorem lw_p60 : lw_okq (⟨"PaperRoundModel", "readerTells", "(II)I"⟩, 48) := ⟨⟨by decide +kernel, by decide +kernel⟩, List.mem_of_getElem? (i := 880) (by decide +kernel), List.mem_of_getElem? (i := 1172) (by decide +kernel), List.mem_of_getElem? (i := 1173) (by decide +kernel)⟩
theorem lw_p61 : lw_okq (⟨"PaperRoundModel", "readerOf", "(I)I"⟩, 48) := ⟨⟨by decide +kernel, by decide +kernel⟩, List.mem_of_getElem? (i := 880) (by decide +kernel), List.mem_of_getElem? (i := 1176) (by decide +kernel), List.mem_of_getElem? (i := 1177) (by decide +kernel)⟩
theorem lw_p62 : lw_okq (⟨"PaperRoundModel", "isWant", "(I)Z"⟩, 48) := ⟨⟨by decide +kernel, by decide +kernel⟩, List.mem_of_getElem? (i := 880) (by decide +kernel), List.mem_of_getElem? (i := 1184) (by decide +kernel), List.mem_of_getElem? (i := 1185) (by decide +kernel)⟩
theorem lw_p63 : lw_okq (⟨"PaperRoundModel", "wantTells", "(II)I"⟩, 48) := ⟨⟨by decide +kernel, by decide +kernel⟩, List.mem_of_getElem? (i := 880) (by decide +kernel), List.mem_of_getElem? (i := 1188) (by decide +kernel), List.mem_of_getElem? (i := 1189) (by decide +kernel)⟩
def lw_privs_4 : List (MethodName × Nat) := [(⟨"PaperRoundModel", "readsItem", "(I)Z"⟩, 48), (⟨"PaperRoundModel", "readsLast", "(I)Z"⟩, 48), (⟨"PaperRoundModel", "minute", "(III)Z"⟩, 48), (⟨"PaperRoundModel", "readsPart", "(I)Z"⟩, 48), (⟨"PaperRoundModel", "figure", "(III)Z"⟩, 48), (⟨"PaperRoundModel", "sign", "(II)Z"⟩, 48), (⟨"PaperRoundModel", "readsReader", "(I)Z"⟩, 48), (⟨"PaperRoundModel", "readsWant", "(II)Z"⟩, 48), (⟨"PaperRoundModel", "readsNot", "(I)Z"⟩, 48), (⟨"PaperRoundModel", "readsCushion", "(I)Z"⟩, 48), (⟨"PaperRoundModel", "isPart", "(I)Z"⟩, 48), (⟨"PaperRoundModel", "isReader", "(I)Z"⟩, 48), (⟨"PaperRoundModel", "readerTells", "(II)I"⟩, 48), (⟨"PaperRoundModel", "readerOf", "(I)I"⟩, 48), (⟨"PaperRoundModel", "isWant", "(I)Z"⟩, 48), (⟨"PaperRoundModel", "wantTells", "(II)I"⟩, 48)]
theorem lw_r4 : ∀ q ∈ lw_privs_4, lw_okq q := List.forall_mem_cons.mpr ⟨lw_p48, List.forall_mem_cons.mpr ⟨lw_p49, List.forall_mem_cons.mpr ⟨lw_p50, List.forall_mem_cons.mpr ⟨lw_p51, List.forall_mem_cons.mpr ⟨lw_p52, List.forall_mem_cons.mpr ⟨lw_p53, List.forall_mem_cons.mpr ⟨lw_p54, List.forall_mem_cons.mpr ⟨lw_p55, List.forall_mem_cons.mpr ⟨lw_p56, List.forall_mem_cons.mpr ⟨lw_p57, List.forall_mem_cons.mpr ⟨lw_p58, List.forall_mem_cons.mpr ⟨lw_p59, List.forall_mem_cons.mpr ⟨lw_p60, List.forall_mem_cons.mpr ⟨lw_p61, List.forall_mem_cons.mpr ⟨lw_p62, List.forall_mem_cons.mpr ⟨lw_p63, fun _ h => absurd h List.not_mem_nil⟩⟩⟩⟩⟩⟩⟩⟩⟩⟩⟩⟩⟩⟩⟩⟩
theorem lw_p64 : lw_okq (⟨"PaperRoundModel", "partOf", "(I)I"⟩, 48) := ⟨⟨by decide +kernel, by decide +kernel⟩, List.mem_of_getElem? (i := 880) (by decide +kernel), List.mem_of_getElem? (i := 1192) (by decide +kernel), List.mem_of_getElem? (i := 1193) (by decide +kernel)⟩
theorem lw_p65 : lw_okq (⟨"PaperRoundModel", "isNotAfter", "(III)Z"⟩, 48) := ⟨⟨by decide +kernel, by decide +kernel⟩, List.mem_of_getElem? (i := 880) (by decide +kernel), List.mem_of_getElem? (i := 1196) (by decide +kernel), List.mem_of_getElem? (i := 1197) (by decide +kernel)⟩
theorem lw_p66 : lw_okq (⟨"PaperRoundModel", "firstBad", "()I"⟩, 48) := ⟨⟨by decide +kernel, by decide +kernel⟩, List.mem_of_getElem? (i := 880) (by decide +kernel), List.mem_of_getElem? (i := 1220) (by decide +kernel), List.mem_of_getElem? (i := 1221) (by decide +kernel)⟩
theorem lw_p67 : lw_okq (⟨"PaperRoundModel", "isReading", "(II)Z"⟩, 48) := ⟨⟨by decide +kernel, by decide +kernel⟩, List.mem_of_getElem? (i := 880) (by decide +kernel), List.mem_of_getElem? (i := 1224) (by decide +kernel), List.mem_of_getElem? (i := 1225) (by decide +kernel)⟩
theorem lw_p68 : lw_okq (⟨"PaperRoundModel", "isRead", "(I)Z"⟩, 48) := ⟨⟨by decide +kernel, by decide +kernel⟩, List.mem_of_getElem? (i := 880) (by decide +kernel), List.mem_of_getElem? (i := 1228) (by decide +kernel), List.mem_of_getElem? (i := 1229) (by decide +kernel)⟩
theorem lw_p69 : lw_okq (⟨"PaperRoundModel", "endOf", "(I)I"⟩, 48) := ⟨⟨by decide +kernel, by decide +kernel⟩, List.mem_of_getElem? (i := 880) (by decide +kernel), List.mem_of_getElem? (i := 1232) (by decide +kernel), List.mem_of_getElem? (i := 1233) (by decide +kernel)⟩
theorem lw_p70 : lw_okq (⟨"PaperRoundModel", "minutesOf", "(I)I"⟩, 48) := ⟨⟨by decide +kernel, by decide +kernel⟩, List.mem_of_getElem? (i := 880) (by decide +kernel), List.mem_of_getElem? (i := 1236) (by decide +kernel), List.mem_of_getElem? (i := 1237) (by decide +kernel)⟩
theorem lw_p71 : lw_okq (⟨"PaperRoundModel", "isWell", "(II)Z"⟩, 48) := ⟨⟨by decide +kernel, by decide +kernel⟩, List.mem_of_getElem? (i := 880) (by decide +kernel), List.mem_of_getElem? (i := 1240) (by decide +kernel), List.mem_of_getElem? (i := 1241) (by decide +kernel)⟩
theorem lw_p72 : lw_okq (⟨"PaperRoundModel", "from", "(I)I"⟩, 48) := ⟨⟨by decide +kernel, by decide +kernel⟩, List.mem_of_getElem? (i := 880) (by decide +kernel), List.mem_of_getElem? (i := 1244) (by decide +kernel), List.mem_of_getElem? (i := 1245) (by decide +kernel)⟩
theorem lw_p73 : lw_okq (⟨"PaperRoundModel", "till", "(I)I"⟩, 48) := ⟨⟨by decide +kernel, by decide +kernel⟩, List.mem_of_getElem? (i := 880) (by decide +kernel), List.mem_of_getElem? (i := 1248) (by decide +kernel), List.mem_of_getElem? (i := 1249) (by decide +kernel)⟩
theorem lw_p74 : lw_okq (⟨"PaperRoundModel", "comesAt", "(I)I"⟩, 48) := ⟨⟨by decide +kernel, by decide +kernel⟩, List.mem_of_getElem? (i := 880) (by decide +kernel), List.mem_of_getElem? (i := 1252) (by decide +kernel), List.mem_of_getElem? (i := 1253) (by decide +kernel)⟩
theorem lw_p75 : lw_okq (⟨"PaperRoundModel", "isUnder", "(III)Z"⟩, 48) := ⟨⟨by decide +kernel, by decide +kernel⟩, List.mem_of_getElem? (i := 880) (by decide +kernel), List.mem_of_getElem? (i := 1256) (by decide +kernel), List.mem_of_getElem? (i := 1257) (by decide +kernel)⟩
theorem lw_p76 : lw_okq (⟨"PaperRoundModel", "readingMany", "(II)I"⟩, 48) := ⟨⟨by decide +kernel, by decide +kernel⟩, List.mem_of_getElem? (i := 880) (by decide +kernel), List.mem_of_getElem? (i := 1260) (by decide +kernel), List.mem_of_getElem? (i := 1261) (by decide +kernel)⟩
theorem lw_p77 : lw_okq (⟨"PaperRoundModel", "copiesOf", "(I)I"⟩, 48) := ⟨⟨by decide +kernel, by decide +kernel⟩, List.mem_of_getElem? (i := 880) (by decide +kernel), List.mem_of_getElem? (i := 1264) (by decide +kernel), List.mem_of_getElem? (i := 1265) (by decide +kernel)⟩
theorem lw_p78 : lw_okq (⟨"PaperRoundModel", "doesRead", "(III)Z"⟩, 48) := ⟨⟨by decide +kernel, by decide +kernel⟩, List.mem_of_getElem? (i := 880) (by decide +kernel), List.mem_of_getElem? (i := 1268) (by decide +kernel), List.mem_of_getElem? (i := 1269) (by decide +kernel)⟩
theorem lw_p79 : lw_okq (⟨"PaperRoundModel", "isDue", "(II)Z"⟩, 48) := ⟨⟨by decide +kernel, by decide +kernel⟩, List.mem_of_getElem? (i := 880) (by decide +kernel), List.mem_of_getElem? (i := 1272) (by decide +kernel), List.mem_of_getElem? (i := 1273) (by decide +kernel)⟩
def lw_privs_5 : List (MethodName × Nat) := [(⟨"PaperRoundModel", "partOf", "(I)I"⟩, 48), (⟨"PaperRoundModel", "isNotAfter", "(III)Z"⟩, 48), (⟨"PaperRoundModel", "firstBad", "()I"⟩, 48), (⟨"PaperRoundModel", "isReading", "(II)Z"⟩, 48), (⟨"PaperRoundModel", "isRead", "(I)Z"⟩, 48), (⟨"PaperRoundModel", "endOf", "(I)I"⟩, 48), (⟨"PaperRoundModel", "minutesOf", "(I)I"⟩, 48), (⟨"PaperRoundModel", "isWell", "(II)Z"⟩, 48), (⟨"PaperRoundModel", "from", "(I)I"⟩, 48), (⟨"PaperRoundModel", "till", "(I)I"⟩, 48), (⟨"PaperRoundModel", "comesAt", "(I)I"⟩, 48), (⟨"PaperRoundModel", "isUnder", "(III)Z"⟩, 48), (⟨"PaperRoundModel", "readingMany", "(II)I"⟩, 48), (⟨"PaperRoundModel", "copiesOf", "(I)I"⟩, 48), (⟨"PaperRoundModel", "doesRead", "(III)Z"⟩, 48), (⟨"PaperRoundModel", "isDue", "(II)Z"⟩, 48)]
theorem lw_r5 : ∀ q ∈ lw_privs_5, lw_okq q := List.forall_mem_cons.mpr ⟨lw_p64, List.forall_mem_cons.mpr ⟨lw_p65, List.forall_mem_cons.mpr ⟨lw_p66, List.forall_mem_cons.mpr ⟨lw_p67, List.forall_mem_cons.mpr ⟨lw_p68, List.forall_mem_cons.mpr ⟨lw_p69, List.forall_mem_cons.mpr ⟨lw_p70, List.forall_mem_cons.mpr ⟨lw_p71, List.forall_mem_cons.mpr ⟨lw_p72, List.forall_mem_cons.mpr ⟨lw_p73, List.forall_mem_cons.mpr ⟨lw_p74, List.forall_mem_cons.mpr ⟨lw_p75, List.forall_mem_cons.mpr ⟨lw_p76, List.forall_mem_cons.mpr ⟨lw_p77, List.forall_mem_cons.mpr ⟨lw_p78, List.forall_mem_cons.mpr ⟨lw_p79, fun _ h => absurd h List.not_mem_nil⟩⟩⟩⟩⟩⟩⟩⟩⟩⟩⟩⟩⟩⟩⟩⟩
theorem lw_p80 : lw_okq (⟨"PaperRoundModel", "isInOrder", "(I)Z"⟩, 48) := ⟨⟨by decide +kernel, by decide +kernel⟩, List.mem_of_getElem? (i := 880) (by decide +kernel), List.mem_of_getElem? (i := 1276) (by decide +kernel), List.mem_of_getElem? (i := 1277) (by decide +kernel)⟩
theorem lw_p81 : lw_okq (⟨"PaperRoundModel", "isSpoilt", "(II)Z"⟩, 48) := ⟨⟨by decide +kernel, by decide +kernel⟩, List.mem_of_getElem? (i := 880) (by decide +kernel), List.mem_of_getElem? (i := 1280) (by decide +kernel), List.mem_of_getElem? (i := 1281) (by decide +kernel)⟩
theorem lw_p82 : lw_okq (⟨"PaperRoundModel", "missedOf", "(I)I"⟩, 48) := ⟨⟨by decide +kernel, by decide +kernel⟩, List.mem_of_getElem? (i := 880) (by decide +kernel), List.mem_of_getElem? (i := 1288) (by decide +kernel), List.mem_of_getElem? (i := 1289) (by decide +kernel)⟩
theorem lw_p83 : lw_okq (⟨"PaperRoundModel", "worthAt", "(II)I"⟩, 48) := ⟨⟨by decide +kernel, by decide +kernel⟩, List.mem_of_getElem? (i := 880) (by decide +kernel), List.mem_of_getElem? (i := 1292) (by decide +kernel), List.mem_of_getElem? (i := 1293) (by decide +kernel)⟩
theorem lw_p84 : lw_okq (⟨"PaperRoundModel", "markOf", "(II)I"⟩, 48) := ⟨⟨by decide +kernel, by decide +kernel⟩, List.mem_of_getElem? (i := 880) (by decide +kernel), List.mem_of_getElem? (i := 1326) (by decide +kernel), List.mem_of_getElem? (i := 1327) (by decide +kernel)⟩
theorem lw_p85 : lw_okq (⟨"PaperRoundModel", "runs", "(I)V"⟩, 48) := ⟨⟨by decide +kernel, by decide +kernel⟩, List.mem_of_getElem? (i := 880) (by decide +kernel), List.mem_of_getElem? (i := 1334) (by decide +kernel), List.mem_of_getElem? (i := 1335) (by decide +kernel)⟩
theorem lw_p86 : lw_okq (⟨"PaperRoundModel", "chosen", "(II)I"⟩, 48) := ⟨⟨by decide +kernel, by decide +kernel⟩, List.mem_of_getElem? (i := 880) (by decide +kernel), List.mem_of_getElem? (i := 1338) (by decide +kernel), List.mem_of_getElem? (i := 1339) (by decide +kernel)⟩
theorem lw_p87 : lw_okq (⟨"PaperRoundModel", "may", "(IIZ)Z"⟩, 48) := ⟨⟨by decide +kernel, by decide +kernel⟩, List.mem_of_getElem? (i := 880) (by decide +kernel), List.mem_of_getElem? (i := 1342) (by decide +kernel), List.mem_of_getElem? (i := 1343) (by decide +kernel)⟩
theorem lw_p88 : lw_okq (⟨"PaperRoundModel", "takenMany", "(IIZ)I"⟩, 48) := ⟨⟨by decide +kernel, by decide +kernel⟩, List.mem_of_getElem? (i := 880) (by decide +kernel), List.mem_of_getElem? (i := 1346) (by decide +kernel), List.mem_of_getElem? (i := 1347) (by decide +kernel)⟩
theorem lw_p89 : lw_okq (⟨"PaperRoundModel", "hasAll", "(II)Z"⟩, 48) := ⟨⟨by decide +kernel, by decide +kernel⟩, List.mem_of_getElem? (i := 880) (by decide +kernel), List.mem_of_getElem? (i := 1350) (by decide +kernel), List.mem_of_getElem? (i := 1351) (by decide +kernel)⟩
theorem lw_p90 : lw_okq (⟨"PaperRoundModel", "firstOf", "(IIZ)I"⟩, 48) := ⟨⟨by decide +kernel, by decide +kernel⟩, List.mem_of_getElem? (i := 880) (by decide +kernel), List.mem_of_getElem? (i := 1354) (by decide +kernel), List.mem_of_getElem? (i := 1355) (by decide +kernel)⟩
theorem lw_p91 : lw_okq (⟨"PaperRoundModel", "waitsSince", "(I)I"⟩, 48) := ⟨⟨by decide +kernel, by decide +kernel⟩, List.mem_of_getElem? (i := 880) (by decide +kernel), List.mem_of_getElem? (i := 1358) (by decide +kernel), List.mem_of_getElem? (i := 1359) (by decide +kernel)⟩
theorem lw_p92 : lw_okq (⟨"PaperRoundModel", "keep", "([I)V"⟩, 48) := ⟨⟨by decide +kernel, by decide +kernel⟩, List.mem_of_getElem? (i := 880) (by decide +kernel), List.mem_of_getElem? (i := 1366) (by decide +kernel), List.mem_of_getElem? (i := 1367) (by decide +kernel)⟩
theorem lw_p93 : lw_okq (⟨"PaperRoundModel", "layCard", "(I)V"⟩, 48) := ⟨⟨by decide +kernel, by decide +kernel⟩, List.mem_of_getElem? (i := 880) (by decide +kernel), List.mem_of_getElem? (i := 1370) (by decide +kernel), List.mem_of_getElem? (i := 1371) (by decide +kernel)⟩
theorem lw_p94 : lw_okq (⟨"PaperRoundModel", "back", "([I)V"⟩, 48) := ⟨⟨by decide +kernel, by decide +kernel⟩, List.mem_of_getElem? (i := 880) (by decide +kernel), List.mem_of_getElem? (i := 1374) (by decide +kernel), List.mem_of_getElem? (i := 1375) (by decide +kernel)⟩
theorem lw_p95 : lw_okq (⟨"PaperRoundModel", "allWants", "()I"⟩, 48) := ⟨⟨by decide +kernel, by decide +kernel⟩, List.mem_of_getElem? (i := 880) (by decide +kernel), List.mem_of_getElem? (i := 1382) (by decide +kernel), List.mem_of_getElem? (i := 1383) (by decide +kernel)⟩
def lw_privs_6 : List (MethodName × Nat) := [(⟨"PaperRoundModel", "isInOrder", "(I)Z"⟩, 48), (⟨"PaperRoundModel", "isSpoilt", "(II)Z"⟩, 48), (⟨"PaperRoundModel", "missedOf", "(I)I"⟩, 48), (⟨"PaperRoundModel", "worthAt", "(II)I"⟩, 48), (⟨"PaperRoundModel", "markOf", "(II)I"⟩, 48), (⟨"PaperRoundModel", "runs", "(I)V"⟩, 48), (⟨"PaperRoundModel", "chosen", "(II)I"⟩, 48), (⟨"PaperRoundModel", "may", "(IIZ)Z"⟩, 48), (⟨"PaperRoundModel", "takenMany", "(IIZ)I"⟩, 48), (⟨"PaperRoundModel", "hasAll", "(II)Z"⟩, 48), (⟨"PaperRoundModel", "firstOf", "(IIZ)I"⟩, 48), (⟨"PaperRoundModel", "waitsSince", "(I)I"⟩, 48), (⟨"PaperRoundModel", "keep", "([I)V"⟩, 48), (⟨"PaperRoundModel", "layCard", "(I)V"⟩, 48), (⟨"PaperRoundModel", "back", "([I)V"⟩, 48), (⟨"PaperRoundModel", "allWants", "()I"⟩, 48)]
theorem lw_r6 : ∀ q ∈ lw_privs_6, lw_okq q := List.forall_mem_cons.mpr ⟨lw_p80, List.forall_mem_cons.mpr ⟨lw_p81, List.forall_mem_cons.mpr ⟨lw_p82, List.forall_mem_cons.mpr ⟨lw_p83, List.forall_mem_cons.mpr ⟨lw_p84, List.forall_mem_cons.mpr ⟨lw_p85, List.forall_mem_cons.mpr ⟨lw_p86, List.forall_mem_cons.mpr ⟨lw_p87, List.forall_mem_cons.mpr ⟨lw_p88, List.forall_mem_cons.mpr ⟨lw_p89, List.forall_mem_cons.mpr ⟨lw_p90, List.forall_mem_cons.mpr ⟨lw_p91, List.forall_mem_cons.mpr ⟨lw_p92, List.forall_mem_cons.mpr ⟨lw_p93, List.forall_mem_cons.mpr ⟨lw_p94, List.forall_mem_cons.mpr ⟨lw_p95, fun _ h => absurd h List.not_mem_nil⟩⟩⟩⟩⟩⟩⟩⟩⟩⟩⟩⟩⟩⟩⟩⟩
theorem lw_p96 : lw_okq (⟨"PaperRoundModel", "begins", "(I)Z"⟩, 48) := ⟨⟨by decide +kernel, by decide +kernel⟩, List.mem_of_getElem? (i := 880) (by decide +kernel), List.mem_of_getElem? (i := 1386) (by decide +kernel), List.mem_of_getElem? (i := 1387) (by decide +kernel)⟩
theorem lw_p97 : lw_okq (⟨"PaperRoundModel", "search", "(I)V"⟩, 48) := ⟨⟨by decide +kernel, by decide +kernel⟩, List.mem_of_getElem? (i := 880) (by decide +kernel), List.mem_of_getElem? (i := 1393) (by decide +kernel), List.mem_of_getElem? (i := 1394) (by decide +kernel)⟩
theorem lw_p98 : lw_okq (⟨"PaperRoundModel", "visit", "(I)V"⟩, 48) := ⟨⟨by decide +kernel, by decide +kernel⟩, List.mem_of_getElem? (i := 880) (by decide +kernel), List.mem_of_getElem? (i := 1397) (by decide +kernel), List.mem_of_getElem? (i := 1398) (by decide +kernel)⟩
theorem lw_p99 : lw_okq (⟨"PaperRoundModel", "missedLooked", "()I"⟩, 48) := ⟨⟨by decide +kernel, by decide +kernel⟩, List.mem_of_getElem? (i := 880) (by decide +kernel), List.mem_of_getElem? (i := 1401) (by decide +kernel), List.mem_of_getElem? (i := 1402) (by decide +kernel)⟩
theorem lw_p100 : lw_okq (⟨"PaperRoundModel", "lastEnd", "()I"⟩, 48) := ⟨⟨by decide +kernel, by decide +kernel⟩, List.mem_of_getElem? (i := 880) (by decide +kernel), List.mem_of_getElem? (i := 1405) (by decide +kernel), List.mem_of_getElem? (i := 1406) (by decide +kernel)⟩
theorem lw_p101 : lw_okq (⟨"PaperRoundModel", "worst", "()I"⟩, 48) := ⟨⟨by decide +kernel, by decide +kernel⟩, List.mem_of_getElem? (i := 880) (by decide +kernel), List.mem_of_getElem? (i := 1409) (by decide +kernel), List.mem_of_getElem? (i := 1410) (by decide +kernel)⟩
theorem lw_p102 : lw_okq (⟨"PaperRoundModel", "places", "(I)Z"⟩, 48) := ⟨⟨by decide +kernel, by decide +kernel⟩, List.mem_of_getElem? (i := 880) (by decide +kernel), List.mem_of_getElem? (i := 1413) (by decide +kernel), List.mem_of_getElem? (i := 1414) (by decide +kernel)⟩
theorem lw_p103 : lw_okq (⟨"PaperRoundModel", "isNext", "(I)Z"⟩, 48) := ⟨⟨by decide +kernel, by decide +kernel⟩, List.mem_of_getElem? (i := 880) (by decide +kernel), List.mem_of_getElem? (i := 1417) (by decide +kernel), List.mem_of_getElem? (i := 1418) (by decide +kernel)⟩
theorem lw_p104 : lw_okq (⟨"PaperRoundModel", "freeCopy", "(I)I"⟩, 48) := ⟨⟨by decide +kernel, by decide +kernel⟩, List.mem_of_getElem? (i := 880) (by decide +kernel), List.mem_of_getElem? (i := 1421) (by decide +kernel), List.mem_of_getElem? (i := 1422) (by decide +kernel)⟩
theorem lw_p105 : lw_okq (⟨"PaperRoundModel", "copyEnd", "(II)I"⟩, 48) := ⟨⟨by decide +kernel, by decide +kernel⟩, List.mem_of_getElem? (i := 880) (by decide +kernel), List.mem_of_getElem? (i := 1425) (by decide +kernel), List.mem_of_getElem? (i := 1426) (by decide +kernel)⟩
theorem lw_p106 : lw_okq (⟨"PaperRoundModel", "letsAll", "(II)Z"⟩, 48) := ⟨⟨by decide +kernel, by decide +kernel⟩, List.mem_of_getElem? (i := 880) (by decide +kernel), List.mem_of_getElem? (i := 1429) (by decide +kernel), List.mem_of_getElem? (i := 1430) (by decide +kernel)⟩
theorem lw_p107 : lw_okq (⟨"PaperRoundModel", "canAll", "(I)Z"⟩, 48) := ⟨⟨by decide +kernel, by decide +kernel⟩, List.mem_of_getElem? (i := 880) (by decide +kernel), List.mem_of_getElem? (i := 1453) (by decide +kernel), List.mem_of_getElem? (i := 1454) (by decide +kernel)⟩
theorem lw_p108 : lw_okq (⟨"PaperRoundModel", "counted", "(I)I"⟩, 48) := ⟨⟨by decide +kernel, by decide +kernel⟩, List.mem_of_getElem? (i := 880) (by decide +kernel), List.mem_of_getElem? (i := 1465) (by decide +kernel), List.mem_of_getElem? (i := 1466) (by decide +kernel)⟩
theorem lw_p109 : lw_okq (⟨"PaperRoundModel", "mix", "(J)V"⟩, 48) := ⟨⟨by decide +kernel, by decide +kernel⟩, List.mem_of_getElem? (i := 880) (by decide +kernel), List.mem_of_getElem? (i := 1474) (by decide +kernel), List.mem_of_getElem? (i := 1475) (by decide +kernel)⟩
theorem lw_p110 : lw_okq (⟨"PaperRoundModel", "mixHouse", "()V"⟩, 48) := ⟨⟨by decide +kernel, by decide +kernel⟩, List.mem_of_getElem? (i := 880) (by decide +kernel), List.mem_of_getElem? (i := 1479) (by decide +kernel), List.mem_of_getElem? (i := 1480) (by decide +kernel)⟩
def lw_privs_7 : List (MethodName × Nat) := [(⟨"PaperRoundModel", "begins", "(I)Z"⟩, 48), (⟨"PaperRoundModel", "search", "(I)V"⟩, 48), (⟨"PaperRoundModel", "visit", "(I)V"⟩, 48), (⟨"PaperRoundModel", "missedLooked", "()I"⟩, 48), (⟨"PaperRoundModel", "lastEnd", "()I"⟩, 48), (⟨"PaperRoundModel", "worst", "()I"⟩, 48), (⟨"PaperRoundModel", "places", "(I)Z"⟩, 48), (⟨"PaperRoundModel", "isNext", "(I)Z"⟩, 48), (⟨"PaperRoundModel", "freeCopy", "(I)I"⟩, 48), (⟨"PaperRoundModel", "copyEnd", "(II)I"⟩, 48), (⟨"PaperRoundModel", "letsAll", "(II)Z"⟩, 48), (⟨"PaperRoundModel", "canAll", "(I)Z"⟩, 48), (⟨"PaperRoundModel", "counted", "(I)I"⟩, 48), (⟨"PaperRoundModel", "mix", "(J)V"⟩, 48), (⟨"PaperRoundModel", "mixHouse", "()V"⟩, 48)]
theorem lw_r7 : ∀ q ∈ lw_privs_7, lw_okq q := List.forall_mem_cons.mpr ⟨lw_p96, List.forall_mem_cons.mpr ⟨lw_p97, List.forall_mem_cons.mpr ⟨lw_p98, List.forall_mem_cons.mpr ⟨lw_p99, List.forall_mem_cons.mpr ⟨lw_p100, List.forall_mem_cons.mpr ⟨lw_p101, List.forall_mem_cons.mpr ⟨lw_p102, List.forall_mem_cons.mpr ⟨lw_p103, List.forall_mem_cons.mpr ⟨lw_p104, List.forall_mem_cons.mpr ⟨lw_p105, List.forall_mem_cons.mpr ⟨lw_p106, List.forall_mem_cons.mpr ⟨lw_p107, List.forall_mem_cons.mpr ⟨lw_p108, List.forall_mem_cons.mpr ⟨lw_p109, List.forall_mem_cons.mpr ⟨lw_p110, fun _ h => absurd h List.not_mem_nil⟩⟩⟩⟩⟩⟩⟩⟩⟩⟩⟩⟩⟩⟩⟩
def lw_privs : List (MethodName × Nat) := lw_privs_1 ++ (lw_privs_2 ++ (lw_privs_3 ++ (lw_privs_4 ++ (lw_privs_5 ++ (lw_privs_6 ++ (lw_privs_7))))))
def lw_tbl : List Cond := k2_sels lw_privs ++ tables_1
theorem lw_privs_ok : ∀ q ∈ lw_privs, lw_okq q := by
  show ∀ q ∈ lw_privs_1 ++ (lw_privs_2 ++ (lw_privs_3 ++ (lw_privs_4 ++ (lw_privs_5 ++ (lw_privs_6 ++ (lw_privs_7)))))), lw_okq q
  exact List.forall_mem_append.mpr ⟨lw_r1, List.forall_mem_append.mpr ⟨lw_r2, List.forall_mem_append.mpr ⟨lw_r3, List.forall_mem_append.mpr ⟨lw_r4, List.forall_mem_append.mpr ⟨lw_r5, List.forall_mem_append.mpr ⟨lw_r6, lw_r7⟩⟩⟩⟩⟩⟩
-- ===== end of PART A; then your names; then what follows =====
def RX0 : String := "PaperRound$House"
def TX0 : u_T := fun k => match k with
  | 0 => ("PaperRound$House", "last", "I", false)
  | 1 => ("PaperRound$House", "parts", "I", false)
  | 2 => ("PaperRound$House", "readers", "I", false)
  | 3 => ("PaperRound$House", "wants", "I", false)
  | 4 => ("PaperRound$House", "copies", "[I", true)
  | 5 => ("PaperRound$House", "comes", "[I", true)
  | 6 => ("PaperRound$House", "stale", "[I", true)
  | 7 => ("PaperRound$House", "covered", "[J", true)
  | 8 => ("PaperRound$House", "from", "[I", true)
  | 9 => ("PaperRound$House", "till", "[I", true)
  | 10 => ("PaperRound$House", "wantsOf", "[I", true)
  | 11 => ("PaperRound$House", "ordered", "[Z", true)
  | 12 => ("PaperRound$House", "readerOf", "[I", true)
  | 13 => ("PaperRound$House", "partOf", "[I", true)
  | 14 => ("PaperRound$House", "minutes", "[I", true)
  | 15 => ("PaperRound$House", "worth", "[I", true)
  | 16 => ("PaperRound$House", "notAfter", "[I", true)
  | 17 => ("PaperRound$House", "rivals", "[I", true)
  | _ => ("PaperRound$House", "ahead", "[I", true)
def tyX0 : Nat → FieldType := fun k => match k with
  | 0 => .int
  | 1 => .int
  | 2 => .int
  | 3 => .int
  | 4 => .array .int
  | 5 => .array .int
  | 6 => .array .int
  | 7 => .array .long
  | 8 => .array .int
  | 9 => .array .int
  | 10 => .array .int
  | 11 => .array .boolean
  | 12 => .array .int
  | 13 => .array .int
  | 14 => .array .int
  | 15 => .array .int
  | 16 => .array .int
  | 17 => .array .int
  | _ => .array .int
abbrev wsX00 : List Cond := u_ws RX0 TX0 19
theorem nmX0 : ∀ a, a < 19 → ∀ b, b < 19 → a ≠ b → (TX0 a).2.1 ≠ (TX0 b).2.1 := by decide +kernel
theorem tyX0_ok : ∀ k, k < 19 → parseFieldDescriptor (TX0 k).2.2.1 = some (tyX0 k) := by decide +kernel
abbrev cX0_init : ByteArray := prog_2_method_1_code
def yX0_init : MethodName := ⟨RX0, "<init>", "()V"⟩
abbrev cX0_clear : ByteArray := prog_2_method_2_code
def yX0_clear : MethodName := ⟨RX0, "clear", "()V"⟩
abbrev cX0_hasPart : ByteArray := prog_2_method_3_code
def yX0_hasPart : MethodName := ⟨RX0, "hasPart", "(I)Z"⟩
abbrev cX0_hasReader : ByteArray := prog_2_method_4_code
def yX0_hasReader : MethodName := ⟨RX0, "hasReader", "(I)Z"⟩
abbrev cX0_hasWant : ByteArray := prog_2_method_5_code
def yX0_hasWant : MethodName := ⟨RX0, "hasWant", "(I)Z"⟩
abbrev cX0_ofPart : ByteArray := prog_2_method_6_code
def yX0_ofPart : MethodName := ⟨RX0, "ofPart", "(II)I"⟩
abbrev cX0_ofReader : ByteArray := prog_2_method_7_code
def yX0_ofReader : MethodName := ⟨RX0, "ofReader", "(II)I"⟩
abbrev cX0_ofWant : ByteArray := prog_2_method_8_code
def yX0_ofWant : MethodName := ⟨RX0, "ofWant", "(II)I"⟩
abbrev cX0_addPart : ByteArray := prog_2_method_9_code
def yX0_addPart : MethodName := ⟨RX0, "addPart", "(III)V"⟩
abbrev cX0_addReader : ByteArray := prog_2_method_10_code
def yX0_addReader : MethodName := ⟨RX0, "addReader", "(IIZ)V"⟩
abbrev cX0_addWant : ByteArray := prog_2_method_11_code
def yX0_addWant : MethodName := ⟨RX0, "addWant", "(III)V"⟩
abbrev cX0_forbid : ByteArray := prog_2_method_12_code
def yX0_forbid : MethodName := ⟨RX0, "forbid", "(III)V"⟩
abbrev cX0_cover : ByteArray := prog_2_method_13_code
def yX0_cover : MethodName := ⟨RX0, "cover", "(III)V"⟩
abbrev cX0_wantOf : ByteArray := prog_2_method_14_code
def yX0_wantOf : MethodName := ⟨RX0, "wantOf", "(II)I"⟩
abbrev cX0_worthAt : ByteArray := prog_2_method_15_code
def yX0_worthAt : MethodName := ⟨RX0, "worthAt", "(II)I"⟩
abbrev cX0_coveredFrom : ByteArray := prog_2_method_16_code
def yX0_coveredFrom : MethodName := ⟨RX0, "coveredFrom", "(II)I"⟩
abbrev cX0_comesAfter : ByteArray := prog_2_method_17_code
def yX0_comesAfter : MethodName := ⟨RX0, "comesAfter", "(II[I)Z"⟩
abbrev cX0_latestBegin : ByteArray := prog_2_method_18_code
def yX0_latestBegin : MethodName := ⟨RX0, "latestBegin", "(I)I"⟩
def RX1 : String := "PaperRound$HouseText"
def TX1 : u_T := fun k => match k with
  | 0 => ("PaperRound$HouseText", "bytes", "[I", false)
  | 1 => ("PaperRound$HouseText", "size", "I", false)
  | 2 => ("PaperRound$HouseText", "place", "I", false)
  | 3 => ("PaperRound$HouseText", "number", "I", false)
  | 4 => ("PaperRound$HouseText", "nots", "I", false)
  | 5 => ("PaperRound$HouseText", "cushions", "I", false)
  | _ => ("PaperRound$HouseText", "house", "LPaperRound$House;", false)
def tyX1 : Nat → FieldType := fun k => match k with
  | 0 => .array .int
  | 1 => .int
  | 2 => .int
  | 3 => .int
  | 4 => .int
  | 5 => .int
  | _ => .object "PaperRound$House"
abbrev wsX10 : List Cond := u_ws RX1 TX1 7
theorem nmX1 : ∀ a, a < 7 → ∀ b, b < 7 → a ≠ b → (TX1 a).2.1 ≠ (TX1 b).2.1 := by decide +kernel
theorem tyX1_ok : ∀ k, k < 7 → parseFieldDescriptor (TX1 k).2.2.1 = some (tyX1 k) := by decide +kernel
abbrev cX1_init : ByteArray := prog_3_method_1_code
def yX1_init : MethodName := ⟨RX1, "<init>", "()V"⟩
abbrev cX1_take : ByteArray := prog_3_method_2_code
def yX1_take : MethodName := ⟨RX1, "take", "([IILPaperRound$House;)I"⟩
abbrev cX1_look : ByteArray := prog_3_method_3_code
def yX1_look : MethodName := ⟨RX1, "look", "()I"⟩
abbrev cX1_takeSign : ByteArray := prog_3_method_4_code
def yX1_takeSign : MethodName := ⟨RX1, "takeSign", "(C)Z"⟩
abbrev cX1_figure : ByteArray := prog_3_method_5_code
def yX1_figure : MethodName := ⟨RX1, "figure", "()I"⟩
abbrev cX1_takeFigure : ByteArray := prog_3_method_6_code
def yX1_takeFigure : MethodName := ⟨RX1, "takeFigure", "(II)Z"⟩
abbrev cX1_takeMinute : ByteArray := prog_3_method_7_code
def yX1_takeMinute : MethodName := ⟨RX1, "takeMinute", "(II)Z"⟩
abbrev cX1_takeLast : ByteArray := prog_3_method_8_code
def yX1_takeLast : MethodName := ⟨RX1, "takeLast", "()Z"⟩
abbrev cX1_takePart : ByteArray := prog_3_method_9_code
def yX1_takePart : MethodName := ⟨RX1, "takePart", "()Z"⟩
abbrev cX1_takeReader : ByteArray := prog_3_method_10_code
def yX1_takeReader : MethodName := ⟨RX1, "takeReader", "()Z"⟩
abbrev cX1_takeWant : ByteArray := prog_3_method_11_code
def yX1_takeWant : MethodName := ⟨RX1, "takeWant", "()Z"⟩
abbrev cX1_takeNot : ByteArray := prog_3_method_12_code
def yX1_takeNot : MethodName := ⟨RX1, "takeNot", "()Z"⟩
abbrev cX1_takeCushion : ByteArray := prog_3_method_13_code
def yX1_takeCushion : MethodName := ⟨RX1, "takeCushion", "()Z"⟩
def RX2 : String := "PaperRound$Plan"
def TX2 : u_T := fun k => match k with
  | _ => ("PaperRound$Plan", "begins", "[I", true)
def tyX2 : Nat → FieldType := fun k => match k with
  | _ => .array .int
abbrev wsX20 : List Cond := u_ws RX2 TX2 1
theorem nmX2 : ∀ a, a < 1 → ∀ b, b < 1 → a ≠ b → (TX2 a).2.1 ≠ (TX2 b).2.1 := by decide +kernel
theorem tyX2_ok : ∀ k, k < 1 → parseFieldDescriptor (TX2 k).2.2.1 = some (tyX2 k) := by decide +kernel
abbrev cX2_init : ByteArray := prog_4_method_1_code
def yX2_init : MethodName := ⟨RX2, "<init>", "()V"⟩
abbrev cX2_clear : ByteArray := prog_4_method_2_code
def yX2_clear : MethodName := ⟨RX2, "clear", "()V"⟩
abbrev cX2_become : ByteArray := prog_4_method_3_code
def yX2_become : MethodName := ⟨RX2, "become", "([II)V"⟩
abbrev cX2_isBegunAhead : ByteArray := prog_4_method_4_code
def yX2_isBegunAhead : MethodName := ⟨RX2, "isBegunAhead", "(II)Z"⟩
abbrev cX2_begunAhead : ByteArray := prog_4_method_5_code
def yX2_begunAhead : MethodName := ⟨RX2, "begunAhead", "(LPaperRound$House;I)I"⟩
abbrev cX2_isReadIn : ByteArray := prog_4_method_6_code
def yX2_isReadIn : MethodName := ⟨RX2, "isReadIn", "(LPaperRound$House;II)Z"⟩
abbrev cX2_lossOf : ByteArray := prog_4_method_7_code
def yX2_lossOf : MethodName := ⟨RX2, "lossOf", "(LPaperRound$House;I)I"⟩
abbrev cX2_lossOfAll : ByteArray := prog_4_method_8_code
def yX2_lossOfAll : MethodName := ⟨RX2, "lossOfAll", "(LPaperRound$House;)I"⟩
abbrev cX2_lossBy : ByteArray := prog_4_method_9_code
def yX2_lossBy : MethodName := ⟨RX2, "lossBy", "(LPaperRound$House;I)I"⟩
abbrev cX2_firstWrong : ByteArray := prog_4_method_10_code
def yX2_firstWrong : MethodName := ⟨RX2, "firstWrong", "(LPaperRound$House;)I"⟩
abbrev cX2_firstWrongOf : ByteArray := prog_4_method_11_code
def yX2_firstWrongOf : MethodName := ⟨RX2, "firstWrongOf", "(LPaperRound$House;I)I"⟩
abbrev cX2_isCrowded : ByteArray := prog_4_method_12_code
def yX2_isCrowded : MethodName := ⟨RX2, "isCrowded", "(LPaperRound$House;I)Z"⟩
abbrev cX2_isInOrder : ByteArray := prog_4_method_13_code
def yX2_isInOrder : MethodName := ⟨RX2, "isInOrder", "(LPaperRound$House;I)Z"⟩
def RX3 : String := "PaperRound$Round"
def TX3 : u_T := fun k => match k with
  | 0 => ("PaperRound$Round", "house", "LPaperRound$House;", false)
  | 1 => ("PaperRound$Round", "rule", "LPaperRound$Rule;", false)
  | 2 => ("PaperRound$Round", "begins", "[I", false)
  | 3 => ("PaperRound$Round", "begun", "I", false)
  | 4 => ("PaperRound$Round", "freeFrom", "[I", true)
  | 5 => ("PaperRound$Round", "copyEnd", "[I", true)
  | _ => ("PaperRound$Round", "copyReader", "[I", true)
def tyX3 : Nat → FieldType := fun k => match k with
  | 0 => .object "PaperRound$House"
  | 1 => .object "PaperRound$Rule"
  | 2 => .array .int
  | 3 => .int
  | 4 => .array .int
  | 5 => .array .int
  | _ => .array .int
abbrev wsX30 : List Cond := u_ws RX3 TX3 7
theorem nmX3 : ∀ a, a < 7 → ∀ b, b < 7 → a ≠ b → (TX3 a).2.1 ≠ (TX3 b).2.1 := by decide +kernel
theorem tyX3_ok : ∀ k, k < 7 → parseFieldDescriptor (TX3 k).2.2.1 = some (tyX3 k) := by decide +kernel
abbrev cX3_init : ByteArray := prog_5_method_1_code
def yX3_init : MethodName := ⟨RX3, "<init>", "()V"⟩
abbrev cX3_go : ByteArray := prog_5_method_2_code
def yX3_go : MethodName := ⟨RX3, "go", "(LPaperRound$House;LPaperRound$Rule;LPaperRound$Plan;)V"⟩
abbrev cX3_pick : ByteArray := prog_5_method_3_code
def yX3_pick : MethodName := ⟨RX3, "pick", "(I)I"⟩
abbrev cX3_pickByCard : ByteArray := prog_5_method_4_code
def yX3_pickByCard : MethodName := ⟨RX3, "pickByCard", "(I)I"⟩
abbrev cX3_pickNext : ByteArray := prog_5_method_5_code
def yX3_pickNext : MethodName := ⟨RX3, "pickNext", "(I)I"⟩
abbrev cX3_pickDear : ByteArray := prog_5_method_6_code
def yX3_pickDear : MethodName := ⟨RX3, "pickDear", "(I)I"⟩
abbrev cX3_pickShort : ByteArray := prog_5_method_7_code
def yX3_pickShort : MethodName := ⟨RX3, "pickShort", "(I)I"⟩
abbrev cX3_firstOf : ByteArray := prog_5_method_8_code
def yX3_firstOf : MethodName := ⟨RX3, "firstOf", "(II)I"⟩
abbrev cX3_mayBegin : ByteArray := prog_5_method_9_code
def yX3_mayBegin : MethodName := ⟨RX3, "mayBegin", "(II)Z"⟩
abbrev cX3_isThrough : ByteArray := prog_5_method_10_code
def yX3_isThrough : MethodName := ⟨RX3, "isThrough", "(I)Z"⟩
abbrev cX3_freeCopy : ByteArray := prog_5_method_11_code
def yX3_freeCopy : MethodName := ⟨RX3, "freeCopy", "(II)I"⟩
abbrev cX3_begin : ByteArray := prog_5_method_12_code
def yX3_begin : MethodName := ⟨RX3, "begin", "(II)V"⟩
abbrev cX3_letGo : ByteArray := prog_5_method_13_code
def yX3_letGo : MethodName := ⟨RX3, "letGo", "(I)V"⟩
def RX4 : String := "PaperRound$Rule"
def TX4 : u_T := fun k => match k with
  | 0 => ("PaperRound$Rule", "kind", "I", false)
  | _ => ("PaperRound$Rule", "card", "[I", true)
def tyX4 : Nat → FieldType := fun k => match k with
  | 0 => .int
  | _ => .array .int
abbrev wsX40 : List Cond := u_ws RX4 TX4 2
theorem nmX4 : ∀ a, a < 2 → ∀ b, b < 2 → a ≠ b → (TX4 a).2.1 ≠ (TX4 b).2.1 := by decide +kernel
theorem tyX4_ok : ∀ k, k < 2 → parseFieldDescriptor (TX4 k).2.2.1 = some (tyX4 k) := by decide +kernel
abbrev cX4_init : ByteArray := prog_6_method_1_code
def yX4_init : MethodName := ⟨RX4, "<init>", "()V"⟩
abbrev cX4_isCard : ByteArray := prog_6_method_2_code
def yX4_isCard : MethodName := ⟨RX4, "isCard", "()Z"⟩
abbrev cX4_isOf : ByteArray := prog_6_method_3_code
def yX4_isOf : MethodName := ⟨RX4, "isOf", "(I)Z"⟩
abbrev cX4_beginCard : ByteArray := prog_6_method_4_code
def yX4_beginCard : MethodName := ⟨RX4, "beginCard", "(I)V"⟩
abbrev cX4_nextCard : ByteArray := prog_6_method_5_code
def yX4_nextCard : MethodName := ⟨RX4, "nextCard", "(I)Z"⟩
abbrev cX4_swap : ByteArray := prog_6_method_6_code
def yX4_swap : MethodName := ⟨RX4, "swap", "(II)V"⟩
def RX5 : String := "PaperRound$Search"
def TX5 : u_T := fun k => match k with
  | 0 => ("PaperRound$Search", "bestLoss", "I", false)
  | 1 => ("PaperRound$Search", "bestBegins", "[I", true)
  | 2 => ("PaperRound$Search", "house", "LPaperRound$House;", false)
  | 3 => ("PaperRound$Search", "goal", "I", false)
  | 4 => ("PaperRound$Search", "from", "I", false)
  | 5 => ("PaperRound$Search", "ordersCount", "Z", false)
  | 6 => ("PaperRound$Search", "best", "I", false)
  | 7 => ("PaperRound$Search", "loss", "I", false)
  | 8 => ("PaperRound$Search", "placed", "I", false)
  | 9 => ("PaperRound$Search", "todos", "I", false)
  | 10 => ("PaperRound$Search", "todo", "[I", true)
  | 11 => ("PaperRound$Search", "next", "[[I", true)
  | 12 => ("PaperRound$Search", "lossOf", "[I", true)
  | 13 => ("PaperRound$Search", "hopeOf", "[I", true)
  | 14 => ("PaperRound$Search", "begins", "[I", true)
  | 15 => ("PaperRound$Search", "readerEnd", "[I", true)
  | _ => ("PaperRound$Search", "copyEnd", "[I", true)
def tyX5 : Nat → FieldType := fun k => match k with
  | 0 => .int
  | 1 => .array .int
  | 2 => .object "PaperRound$House"
  | 3 => .int
  | 4 => .int
  | 5 => .boolean
  | 6 => .int
  | 7 => .int
  | 8 => .int
  | 9 => .int
  | 10 => .array .int
  | 11 => .array (.array .int)
  | 12 => .array .int
  | 13 => .array .int
  | 14 => .array .int
  | 15 => .array .int
  | _ => .array .int
abbrev wsX50 : List Cond := u_ws RX5 TX5 17
theorem nmX5 : ∀ a, a < 17 → ∀ b, b < 17 → a ≠ b → (TX5 a).2.1 ≠ (TX5 b).2.1 := by decide +kernel
theorem tyX5_ok : ∀ k, k < 17 → parseFieldDescriptor (TX5 k).2.2.1 = some (tyX5 k) := by decide +kernel
abbrev cX5_init : ByteArray := prog_7_method_1_code
def yX5_init : MethodName := ⟨RX5, "<init>", "()V"⟩
abbrev cX5_start : ByteArray := prog_7_method_2_code
def yX5_start : MethodName := ⟨RX5, "start", "(LPaperRound$House;IZ)V"⟩
abbrev cX5_keep : ByteArray := prog_7_method_3_code
def yX5_keep : MethodName := ⟨RX5, "keep", "(II)V"⟩
abbrev cX5_add : ByteArray := prog_7_method_4_code
def yX5_add : MethodName := ⟨RX5, "add", "(I)V"⟩
abbrev cX5_go : ByteArray := prog_7_method_5_code
def yX5_go : MethodName := ⟨RX5, "go", "(I)I"⟩
abbrev cX5_grow : ByteArray := prog_7_method_6_code
def yX5_grow : MethodName := ⟨RX5, "grow", "(LPaperRound$Search;I)V"⟩
abbrev cX5_weigh : ByteArray := prog_7_method_7_code
def yX5_weigh : MethodName := ⟨RX5, "weigh", "(I)V"⟩
abbrev cX5_hope : ByteArray := prog_7_method_8_code
def yX5_hope : MethodName := ⟨RX5, "hope", "(I)I"⟩
abbrev cX5_worst : ByteArray := prog_7_method_9_code
def yX5_worst : MethodName := ⟨RX5, "worst", "([I)I"⟩
abbrev cX5_isNext : ByteArray := prog_7_method_10_code
def yX5_isNext : MethodName := ⟨RX5, "isNext", "(I)Z"⟩
abbrev cX5_earliest : ByteArray := prog_7_method_11_code
def yX5_earliest : MethodName := ⟨RX5, "earliest", "(I)I"⟩
abbrev cX5_firstCopy : ByteArray := prog_7_method_12_code
def yX5_firstCopy : MethodName := ⟨RX5, "firstCopy", "(I)I"⟩
abbrev cX5_place : ByteArray := prog_7_method_13_code
def yX5_place : MethodName := ⟨RX5, "place", "(III)V"⟩
abbrev cX5_takeBack : ByteArray := prog_7_method_14_code
def yX5_takeBack : MethodName := ⟨RX5, "takeBack", "(II)V"⟩
abbrev cX5_miss : ByteArray := prog_7_method_15_code
def yX5_miss : MethodName := ⟨RX5, "miss", "(II)V"⟩
def RX6 : String := "PaperRound$Shelf"
def TX6 : u_T := fun k => match k with
  | 0 => ("PaperRound$Shelf", "places", "[[I", true)
  | _ => ("PaperRound$Shelf", "sizes", "[I", true)
def tyX6 : Nat → FieldType := fun k => match k with
  | 0 => .array (.array .int)
  | _ => .array .int
abbrev wsX60 : List Cond := u_ws RX6 TX6 2
theorem nmX6 : ∀ a, a < 2 → ∀ b, b < 2 → a ≠ b → (TX6 a).2.1 ≠ (TX6 b).2.1 := by decide +kernel
theorem tyX6_ok : ∀ k, k < 2 → parseFieldDescriptor (TX6 k).2.2.1 = some (tyX6 k) := by decide +kernel
abbrev cX6_init : ByteArray := prog_8_method_1_code
def yX6_init : MethodName := ⟨RX6, "<init>", "(II)V"⟩
abbrev cX6_has : ByteArray := prog_8_method_2_code
def yX6_has : MethodName := ⟨RX6, "has", "(I)Z"⟩
abbrev cX6_isMissing : ByteArray := prog_8_method_3_code
def yX6_isMissing : MethodName := ⟨RX6, "isMissing", "(I)Z"⟩
abbrev cX6_lackAt : ByteArray := prog_8_method_4_code
def yX6_lackAt : MethodName := ⟨RX6, "lackAt", "(II)I"⟩
abbrev cX6_spans : ByteArray := prog_8_method_5_code
def yX6_spans : MethodName := ⟨RX6, "spans", "(III)Z"⟩
abbrev cX6_begin : ByteArray := prog_8_method_6_code
def yX6_begin : MethodName := ⟨RX6, "begin", "(III)V"⟩
abbrev cX6_there : ByteArray := prog_8_method_7_code
def yX6_there : MethodName := ⟨RX6, "there", "()I"⟩
abbrev cX6_digestOn : ByteArray := prog_8_method_8_code
def yX6_digestOn : MethodName := ⟨RX6, "digestOn", "(J)J"⟩
def RX7 : String := "PaperRound"
def TX7 : u_T := fun k => match k with
  | 0 => ("PaperRound", "rows", "LPaperRound$Shelf;", true)
  | 1 => ("PaperRound", "texts", "LPaperRound$Shelf;", true)
  | 2 => ("PaperRound", "houseText", "LPaperRound$HouseText;", true)
  | 3 => ("PaperRound", "plan", "LPaperRound$Plan;", true)
  | 4 => ("PaperRound", "trialPlan", "LPaperRound$Plan;", true)
  | 5 => ("PaperRound", "rules", "[LPaperRound$Rule;", true)
  | 6 => ("PaperRound", "trialRule", "LPaperRound$Rule;", true)
  | 7 => ("PaperRound", "round", "LPaperRound$Round;", true)
  | 8 => ("PaperRound", "search", "LPaperRound$Search;", true)
  | 9 => ("PaperRound", "findings", "[I", true)
  | 10 => ("PaperRound", "house", "LPaperRound$House;", false)
  | 11 => ("PaperRound", "draft", "LPaperRound$House;", false)
  | 12 => ("PaperRound", "finding", "I", false)
  | _ => ("PaperRound", "asked", "I", false)
def tyX7 : Nat → FieldType := fun k => match k with
  | 0 => .object "PaperRound$Shelf"
  | 1 => .object "PaperRound$Shelf"
  | 2 => .object "PaperRound$HouseText"
  | 3 => .object "PaperRound$Plan"
  | 4 => .object "PaperRound$Plan"
  | 5 => .array (.object "PaperRound$Rule")
  | 6 => .object "PaperRound$Rule"
  | 7 => .object "PaperRound$Round"
  | 8 => .object "PaperRound$Search"
  | 9 => .array .int
  | 10 => .object "PaperRound$House"
  | 11 => .object "PaperRound$House"
  | 12 => .int
  | _ => .int
abbrev wsX70 : List Cond := u_ws RX7 TX7 14
theorem nmX7 : ∀ a, a < 14 → ∀ b, b < 14 → a ≠ b → (TX7 a).2.1 ≠ (TX7 b).2.1 := by decide +kernel
theorem tyX7_ok : ∀ k, k < 14 → parseFieldDescriptor (TX7 k).2.2.1 = some (tyX7 k) := by decide +kernel
abbrev cX7_init : ByteArray := prog_1_method_1_code
def yX7_init : MethodName := ⟨RX7, "<init>", "()V"⟩
abbrev cX7_row : ByteArray := prog_1_method_2_code
def yX7_row : MethodName := ⟨RX7, "row", "(II)I"⟩
abbrev cX7_lay : ByteArray := prog_1_method_3_code
def yX7_lay : MethodName := ⟨RX7, "lay", "(III)I"⟩
abbrev cX7_at : ByteArray := prog_1_method_4_code
def yX7_at : MethodName := ⟨RX7, "at", "(II)I"⟩
abbrev cX7_tear : ByteArray := prog_1_method_5_code
def yX7_tear : MethodName := ⟨RX7, "tear", "(I)I"⟩
abbrev cX7_copy : ByteArray := prog_1_method_6_code
def yX7_copy : MethodName := ⟨RX7, "copy", "(IIIII)I"⟩
abbrev cX7_mean : ByteArray := prog_1_method_7_code
def yX7_mean : MethodName := ⟨RX7, "mean", "(I)I"⟩
abbrev cX7_text : ByteArray := prog_1_method_8_code
def yX7_text : MethodName := ⟨RX7, "text", "(II)I"⟩
abbrev cX7_put : ByteArray := prog_1_method_9_code
def yX7_put : MethodName := ⟨RX7, "put", "(III)I"⟩
abbrev cX7_fault : ByteArray := prog_1_method_10_code
def yX7_fault : MethodName := ⟨RX7, "fault", "(I)I"⟩
abbrev cX7_house : ByteArray := prog_1_method_11_code
def yX7_house : MethodName := ⟨RX7, "house", "(I)I"⟩
abbrev cX7_part : ByteArray := prog_1_method_12_code
def yX7_part : MethodName := ⟨RX7, "part", "(II)I"⟩
abbrev cX7_reader : ByteArray := prog_1_method_13_code
def yX7_reader : MethodName := ⟨RX7, "reader", "(II)I"⟩
abbrev cX7_want : ByteArray := prog_1_method_14_code
def yX7_want : MethodName := ⟨RX7, "want", "(II)I"⟩
abbrev cX7_copies : ByteArray := prog_1_method_15_code
def yX7_copies : MethodName := ⟨RX7, "copies", "(II)I"⟩
abbrev cX7_post : ByteArray := prog_1_method_16_code
def yX7_post : MethodName := ⟨RX7, "post", "(III)I"⟩
abbrev cX7_late : ByteArray := prog_1_method_17_code
def yX7_late : MethodName := ⟨RX7, "late", "(III)I"⟩
abbrev cX7_read : ByteArray := prog_1_method_18_code
def yX7_read : MethodName := ⟨RX7, "read", "(II)I"⟩
abbrev cX7_judge : ByteArray := prog_1_method_19_code
def yX7_judge : MethodName := ⟨RX7, "judge", "()I"⟩
abbrev cX7_missed : ByteArray := prog_1_method_20_code
def yX7_missed : MethodName := ⟨RX7, "missed", "(I)I"⟩
abbrev cX7_who : ByteArray := prog_1_method_21_code
def yX7_who : MethodName := ⟨RX7, "who", "(II)I"⟩
abbrev cX7_can : ByteArray := prog_1_method_22_code
def yX7_can : MethodName := ⟨RX7, "can", "(II)I"⟩
abbrev cX7_image : ByteArray := prog_1_method_23_code
def yX7_image : MethodName := ⟨RX7, "image", "(I)I"⟩
abbrev cX7_on : ByteArray := prog_1_method_24_code
def yX7_on : MethodName := ⟨RX7, "on", "(I)I"⟩
abbrev cX7_rule : ByteArray := prog_1_method_25_code
def yX7_rule : MethodName := ⟨RX7, "rule", "(III)I"⟩
abbrev cX7_mark : ByteArray := prog_1_method_26_code
def yX7_mark : MethodName := ⟨RX7, "mark", "(II)I"⟩
abbrev cX7_run : ByteArray := prog_1_method_27_code
def yX7_run : MethodName := ⟨RX7, "run", "(I)I"⟩
abbrev cX7_best : ByteArray := prog_1_method_28_code
def yX7_best : MethodName := ⟨RX7, "best", "(I)I"⟩
abbrev cX7_least : ByteArray := prog_1_method_29_code
def yX7_least : MethodName := ⟨RX7, "least", "()I"⟩
abbrev cX7_mend : ByteArray := prog_1_method_30_code
def yX7_mend : MethodName := ⟨RX7, "mend", "(I)I"⟩
abbrev cX7_soon : ByteArray := prog_1_method_31_code
def yX7_soon : MethodName := ⟨RX7, "soon", "()I"⟩
abbrev cX7_even : ByteArray := prog_1_method_32_code
def yX7_even : MethodName := ⟨RX7, "even", "()I"⟩
abbrev cX7_bound : ByteArray := prog_1_method_33_code
def yX7_bound : MethodName := ⟨RX7, "bound", "()I"⟩
abbrev cX7_quarrel : ByteArray := prog_1_method_34_code
def yX7_quarrel : MethodName := ⟨RX7, "quarrel", "()I"⟩
abbrev cX7_twice : ByteArray := prog_1_method_35_code
def yX7_twice : MethodName := ⟨RX7, "twice", "()I"⟩
abbrev cX7_asked : ByteArray := prog_1_method_36_code
def yX7_asked : MethodName := ⟨RX7, "asked", "()I"⟩
abbrev cX7_count : ByteArray := prog_1_method_37_code
def yX7_count : MethodName := ⟨RX7, "count", "(I)I"⟩
abbrev cX7_finding : ByteArray := prog_1_method_38_code
def yX7_finding : MethodName := ⟨RX7, "finding", "()I"⟩
abbrev cX7_findings : ByteArray := prog_1_method_39_code
def yX7_findings : MethodName := ⟨RX7, "findings", "(I)I"⟩
abbrev cX7_digest : ByteArray := prog_1_method_40_code
def yX7_digest : MethodName := ⟨RX7, "digest", "()J"⟩
abbrev cX7_found : ByteArray := prog_1_method_41_code
def yX7_found : MethodName := ⟨RX7, "found", "(I)I"⟩
abbrev cX7_isBeginning : ByteArray := prog_1_method_42_code
def yX7_isBeginning : MethodName := ⟨RX7, "isBeginning", "(I)Z"⟩
abbrev cX7_ofWant : ByteArray := prog_1_method_43_code
def yX7_ofWant : MethodName := ⟨RX7, "ofWant", "(II)I"⟩
abbrev cX7_lackOfCard : ByteArray := prog_1_method_44_code
def yX7_lackOfCard : MethodName := ⟨RX7, "lackOfCard", "(I)I"⟩
abbrev cX7_rulesThere : ByteArray := prog_1_method_45_code
def yX7_rulesThere : MethodName := ⟨RX7, "rulesThere", "(Z)I"⟩
abbrev cX7_searchAll : ByteArray := prog_1_method_46_code
def yX7_searchAll : MethodName := ⟨RX7, "searchAll", "(I)I"⟩
abbrev cX7_canAllHaveAll : ByteArray := prog_1_method_47_code
def yX7_canAllHaveAll : MethodName := ⟨RX7, "canAllHaveAll", "(I)Z"⟩
abbrev cX7_keepAhead : ByteArray := prog_1_method_48_code
def yX7_keepAhead : MethodName := ⟨RX7, "keepAhead", "(I)V"⟩
abbrev cX7_digestOfHouse : ByteArray := prog_1_method_49_code
def yX7_digestOfHouse : MethodName := ⟨RX7, "digestOfHouse", "(J)J"⟩
def RX8 : String := "PaperRoundModel"
def TX8 : u_T := fun k => match k with
  | 0 => ("PaperRoundModel", "latest", "I", false)
  | 1 => ("PaperRoundModel", "came", "[I", true)
  | 2 => ("PaperRoundModel", "asked", "I", false)
  | 3 => ("PaperRoundModel", "sizes", "[I", true)
  | 4 => ("PaperRoundModel", "rows", "[I", true)
  | 5 => ("PaperRoundModel", "copied", "[I", true)
  | 6 => ("PaperRoundModel", "textSizes", "[I", true)
  | 7 => ("PaperRoundModel", "bytes", "[B", true)
  | 8 => ("PaperRoundModel", "last", "I", false)
  | 9 => ("PaperRoundModel", "partMany", "I", false)
  | 10 => ("PaperRoundModel", "readerMany", "I", false)
  | 11 => ("PaperRoundModel", "wantMany", "I", false)
  | 12 => ("PaperRoundModel", "notMany", "I", false)
  | 13 => ("PaperRoundModel", "cushionMany", "I", false)
  | 14 => ("PaperRoundModel", "parts", "[I", true)
  | 15 => ("PaperRoundModel", "readers", "[I", true)
  | 16 => ("PaperRoundModel", "wants", "[I", true)
  | 17 => ("PaperRoundModel", "nots", "[I", true)
  | 18 => ("PaperRoundModel", "cushions", "[I", true)
  | 19 => ("PaperRoundModel", "readAt", "I", false)
  | 20 => ("PaperRoundModel", "readNumber", "I", false)
  | 21 => ("PaperRoundModel", "readLast", "I", false)
  | 22 => ("PaperRoundModel", "readParts", "I", false)
  | 23 => ("PaperRoundModel", "readReaders", "I", false)
  | 24 => ("PaperRoundModel", "readWants", "I", false)
  | 25 => ("PaperRoundModel", "readNots", "I", false)
  | 26 => ("PaperRoundModel", "readCushions", "I", false)
  | 27 => ("PaperRoundModel", "readPart", "[I", true)
  | 28 => ("PaperRoundModel", "readReader", "[I", true)
  | 29 => ("PaperRoundModel", "readWant", "[I", true)
  | 30 => ("PaperRoundModel", "readNot", "[I", true)
  | 31 => ("PaperRoundModel", "readCushion", "[I", true)
  | 32 => ("PaperRoundModel", "plan", "[I", true)
  | 33 => ("PaperRoundModel", "ruleKind", "[I", true)
  | 34 => ("PaperRoundModel", "cards", "[I", true)
  | 35 => ("PaperRoundModel", "card", "[I", true)
  | 36 => ("PaperRoundModel", "kept", "[I", true)
  | 37 => ("PaperRoundModel", "bestPlan", "[I", true)
  | 38 => ("PaperRoundModel", "copyOf", "[I", true)
  | 39 => ("PaperRoundModel", "looked", "I", false)
  | 40 => ("PaperRoundModel", "begin", "I", false)
  | 41 => ("PaperRoundModel", "ordersCount", "Z", false)
  | 42 => ("PaperRoundModel", "wanted", "I", false)
  | 43 => ("PaperRoundModel", "found", "I", false)
  | 44 => ("PaperRoundModel", "foundMissed", "I", false)
  | 45 => ("PaperRoundModel", "toPlace", "I", false)
  | 46 => ("PaperRoundModel", "tried", "[I", true)
  | _ => ("PaperRoundModel", "h", "J", false)
def tyX8 : Nat → FieldType := fun k => match k with
  | 0 => .int
  | 1 => .array .int
  | 2 => .int
  | 3 => .array .int
  | 4 => .array .int
  | 5 => .array .int
  | 6 => .array .int
  | 7 => .array .byte
  | 8 => .int
  | 9 => .int
  | 10 => .int
  | 11 => .int
  | 12 => .int
  | 13 => .int
  | 14 => .array .int
  | 15 => .array .int
  | 16 => .array .int
  | 17 => .array .int
  | 18 => .array .int
  | 19 => .int
  | 20 => .int
  | 21 => .int
  | 22 => .int
  | 23 => .int
  | 24 => .int
  | 25 => .int
  | 26 => .int
  | 27 => .array .int
  | 28 => .array .int
  | 29 => .array .int
  | 30 => .array .int
  | 31 => .array .int
  | 32 => .array .int
  | 33 => .array .int
  | 34 => .array .int
  | 35 => .array .int
  | 36 => .array .int
  | 37 => .array .int
  | 38 => .array .int
  | 39 => .int
  | 40 => .int
  | 41 => .boolean
  | 42 => .int
  | 43 => .int
  | 44 => .int
  | 45 => .int
  | 46 => .array .int
  | _ => .long
abbrev wsX80 : List Cond := u_ws RX8 TX8 48
theorem nmX8 : ∀ a, a < 48 → ∀ b, b < 48 → a ≠ b → (TX8 a).2.1 ≠ (TX8 b).2.1 := by decide +kernel
theorem tyX8_ok : ∀ k, k < 48 → parseFieldDescriptor (TX8 k).2.2.1 = some (tyX8 k) := by decide +kernel
abbrev cX8_init : ByteArray := prog_10_method_1_code
def yX8_init : MethodName := ⟨RX8, "<init>", "()V"⟩
abbrev cX8_in : ByteArray := prog_10_method_2_code
def yX8_in : MethodName := ⟨RX8, "in", "(III)Z"⟩
abbrev cX8_has : ByteArray := prog_10_method_3_code
def yX8_has : MethodName := ⟨RX8, "has", "(II)Z"⟩
abbrev cX8_bits : ByteArray := prog_10_method_4_code
def yX8_bits : MethodName := ⟨RX8, "bits", "(I)I"⟩
abbrev cX8_greater : ByteArray := prog_10_method_5_code
def yX8_greater : MethodName := ⟨RX8, "greater", "(II)I"⟩
abbrev cX8_meets : ByteArray := prog_10_method_6_code
def yX8_meets : MethodName := ⟨RX8, "meets", "(I)I"⟩
abbrev cX8_finding : ByteArray := prog_10_method_7_code
def yX8_finding : MethodName := ⟨RX8, "finding", "()I"⟩
abbrev cX8_findings : ByteArray := prog_10_method_8_code
def yX8_findings : MethodName := ⟨RX8, "findings", "(I)I"⟩
abbrev cX8_tells : ByteArray := prog_10_method_9_code
def yX8_tells : MethodName := ⟨RX8, "tells", "(II)I"⟩
abbrev cX8_asked : ByteArray := prog_10_method_10_code
def yX8_asked : MethodName := ⟨RX8, "asked", "()I"⟩
abbrev cX8_isRow : ByteArray := prog_10_method_11_code
def yX8_isRow : MethodName := ⟨RX8, "isRow", "(I)Z"⟩
abbrev cX8_rowAt : ByteArray := prog_10_method_12_code
def yX8_rowAt : MethodName := ⟨RX8, "rowAt", "(II)I"⟩
abbrev cX8_row : ByteArray := prog_10_method_13_code
def yX8_row : MethodName := ⟨RX8, "row", "(II)I"⟩
abbrev cX8_lay : ByteArray := prog_10_method_14_code
def yX8_lay : MethodName := ⟨RX8, "lay", "(III)I"⟩
abbrev cX8_at : ByteArray := prog_10_method_15_code
def yX8_at : MethodName := ⟨RX8, "at", "(II)I"⟩
abbrev cX8_tear : ByteArray := prog_10_method_16_code
def yX8_tear : MethodName := ⟨RX8, "tear", "(I)I"⟩
abbrev cX8_copy : ByteArray := prog_10_method_17_code
def yX8_copy : MethodName := ⟨RX8, "copy", "(IIIII)I"⟩
abbrev cX8_mean : ByteArray := prog_10_method_18_code
def yX8_mean : MethodName := ⟨RX8, "mean", "(I)I"⟩
abbrev cX8_isText : ByteArray := prog_10_method_19_code
def yX8_isText : MethodName := ⟨RX8, "isText", "(I)Z"⟩
abbrev cX8_text : ByteArray := prog_10_method_20_code
def yX8_text : MethodName := ⟨RX8, "text", "(II)I"⟩
abbrev cX8_put : ByteArray := prog_10_method_21_code
def yX8_put : MethodName := ⟨RX8, "put", "(III)I"⟩
abbrev cX8_byteAt : ByteArray := prog_10_method_22_code
def yX8_byteAt : MethodName := ⟨RX8, "byteAt", "(II)I"⟩
abbrev cX8_sign : ByteArray := prog_10_method_23_code
def yX8_sign : MethodName := ⟨RX8, "sign", "(II)Z"⟩
abbrev cX8_figure : ByteArray := prog_10_method_24_code
def yX8_figure : MethodName := ⟨RX8, "figure", "(III)Z"⟩
abbrev cX8_minute : ByteArray := prog_10_method_25_code
def yX8_minute : MethodName := ⟨RX8, "minute", "(III)Z"⟩
abbrev cX8_readsLast : ByteArray := prog_10_method_26_code
def yX8_readsLast : MethodName := ⟨RX8, "readsLast", "(I)Z"⟩
abbrev cX8_readsPart : ByteArray := prog_10_method_27_code
def yX8_readsPart : MethodName := ⟨RX8, "readsPart", "(I)Z"⟩
abbrev cX8_readsReader : ByteArray := prog_10_method_28_code
def yX8_readsReader : MethodName := ⟨RX8, "readsReader", "(I)Z"⟩
abbrev cX8_readsWant : ByteArray := prog_10_method_29_code
def yX8_readsWant : MethodName := ⟨RX8, "readsWant", "(II)Z"⟩
abbrev cX8_readsNot : ByteArray := prog_10_method_30_code
def yX8_readsNot : MethodName := ⟨RX8, "readsNot", "(I)Z"⟩
abbrev cX8_readsCushion : ByteArray := prog_10_method_31_code
def yX8_readsCushion : MethodName := ⟨RX8, "readsCushion", "(I)Z"⟩
abbrev cX8_readsItem : ByteArray := prog_10_method_32_code
def yX8_readsItem : MethodName := ⟨RX8, "readsItem", "(I)Z"⟩
abbrev cX8_faultOf : ByteArray := prog_10_method_33_code
def yX8_faultOf : MethodName := ⟨RX8, "faultOf", "(I)I"⟩
abbrev cX8_fault : ByteArray := prog_10_method_34_code
def yX8_fault : MethodName := ⟨RX8, "fault", "(I)I"⟩
abbrev cX8_house : ByteArray := prog_10_method_35_code
def yX8_house : MethodName := ⟨RX8, "house", "(I)I"⟩
abbrev cX8_isPart : ByteArray := prog_10_method_36_code
def yX8_isPart : MethodName := ⟨RX8, "isPart", "(I)Z"⟩
abbrev cX8_isReader : ByteArray := prog_10_method_37_code
def yX8_isReader : MethodName := ⟨RX8, "isReader", "(I)Z"⟩
abbrev cX8_isWant : ByteArray := prog_10_method_38_code
def yX8_isWant : MethodName := ⟨RX8, "isWant", "(I)Z"⟩
abbrev cX8_readerOf : ByteArray := prog_10_method_39_code
def yX8_readerOf : MethodName := ⟨RX8, "readerOf", "(I)I"⟩
abbrev cX8_partOf : ByteArray := prog_10_method_40_code
def yX8_partOf : MethodName := ⟨RX8, "partOf", "(I)I"⟩
abbrev cX8_minutesOf : ByteArray := prog_10_method_41_code
def yX8_minutesOf : MethodName := ⟨RX8, "minutesOf", "(I)I"⟩
abbrev cX8_copiesOf : ByteArray := prog_10_method_42_code
def yX8_copiesOf : MethodName := ⟨RX8, "copiesOf", "(I)I"⟩
abbrev cX8_comesAt : ByteArray := prog_10_method_43_code
def yX8_comesAt : MethodName := ⟨RX8, "comesAt", "(I)I"⟩
abbrev cX8_from : ByteArray := prog_10_method_44_code
def yX8_from : MethodName := ⟨RX8, "from", "(I)I"⟩
abbrev cX8_till : ByteArray := prog_10_method_45_code
def yX8_till : MethodName := ⟨RX8, "till", "(I)I"⟩
abbrev cX8_isInOrder : ByteArray := prog_10_method_46_code
def yX8_isInOrder : MethodName := ⟨RX8, "isInOrder", "(I)Z"⟩
abbrev cX8_isNotAfter : ByteArray := prog_10_method_47_code
def yX8_isNotAfter : MethodName := ⟨RX8, "isNotAfter", "(III)Z"⟩
abbrev cX8_isUnder : ByteArray := prog_10_method_48_code
def yX8_isUnder : MethodName := ⟨RX8, "isUnder", "(III)Z"⟩
abbrev cX8_part : ByteArray := prog_10_method_49_code
def yX8_part : MethodName := ⟨RX8, "part", "(II)I"⟩
abbrev cX8_readerTells : ByteArray := prog_10_method_50_code
def yX8_readerTells : MethodName := ⟨RX8, "readerTells", "(II)I"⟩
abbrev cX8_reader : ByteArray := prog_10_method_51_code
def yX8_reader : MethodName := ⟨RX8, "reader", "(II)I"⟩
abbrev cX8_wantTells : ByteArray := prog_10_method_52_code
def yX8_wantTells : MethodName := ⟨RX8, "wantTells", "(II)I"⟩
abbrev cX8_want : ByteArray := prog_10_method_53_code
def yX8_want : MethodName := ⟨RX8, "want", "(II)I"⟩
abbrev cX8_copies : ByteArray := prog_10_method_54_code
def yX8_copies : MethodName := ⟨RX8, "copies", "(II)I"⟩
abbrev cX8_post : ByteArray := prog_10_method_55_code
def yX8_post : MethodName := ⟨RX8, "post", "(III)I"⟩
abbrev cX8_late : ByteArray := prog_10_method_56_code
def yX8_late : MethodName := ⟨RX8, "late", "(III)I"⟩
abbrev cX8_isRead : ByteArray := prog_10_method_57_code
def yX8_isRead : MethodName := ⟨RX8, "isRead", "(I)Z"⟩
abbrev cX8_endOf : ByteArray := prog_10_method_58_code
def yX8_endOf : MethodName := ⟨RX8, "endOf", "(I)I"⟩
abbrev cX8_isReading : ByteArray := prog_10_method_59_code
def yX8_isReading : MethodName := ⟨RX8, "isReading", "(II)Z"⟩
abbrev cX8_read : ByteArray := prog_10_method_60_code
def yX8_read : MethodName := ⟨RX8, "read", "(II)I"⟩
abbrev cX8_readingMany : ByteArray := prog_10_method_61_code
def yX8_readingMany : MethodName := ⟨RX8, "readingMany", "(II)I"⟩
abbrev cX8_doesRead : ByteArray := prog_10_method_62_code
def yX8_doesRead : MethodName := ⟨RX8, "doesRead", "(III)Z"⟩
abbrev cX8_isDue : ByteArray := prog_10_method_63_code
def yX8_isDue : MethodName := ⟨RX8, "isDue", "(II)Z"⟩
abbrev cX8_isSpoilt : ByteArray := prog_10_method_64_code
def yX8_isSpoilt : MethodName := ⟨RX8, "isSpoilt", "(II)Z"⟩
abbrev cX8_isWell : ByteArray := prog_10_method_65_code
def yX8_isWell : MethodName := ⟨RX8, "isWell", "(II)Z"⟩
abbrev cX8_firstBad : ByteArray := prog_10_method_66_code
def yX8_firstBad : MethodName := ⟨RX8, "firstBad", "()I"⟩
abbrev cX8_judge : ByteArray := prog_10_method_67_code
def yX8_judge : MethodName := ⟨RX8, "judge", "()I"⟩
abbrev cX8_worthAt : ByteArray := prog_10_method_68_code
def yX8_worthAt : MethodName := ⟨RX8, "worthAt", "(II)I"⟩
abbrev cX8_missedOf : ByteArray := prog_10_method_69_code
def yX8_missedOf : MethodName := ⟨RX8, "missedOf", "(I)I"⟩
abbrev cX8_missed : ByteArray := prog_10_method_70_code
def yX8_missed : MethodName := ⟨RX8, "missed", "(I)I"⟩
abbrev cX8_who : ByteArray := prog_10_method_71_code
def yX8_who : MethodName := ⟨RX8, "who", "(II)I"⟩
abbrev cX8_can : ByteArray := prog_10_method_72_code
def yX8_can : MethodName := ⟨RX8, "can", "(II)I"⟩
abbrev cX8_image : ByteArray := prog_10_method_73_code
def yX8_image : MethodName := ⟨RX8, "image", "(I)I"⟩
abbrev cX8_on : ByteArray := prog_10_method_74_code
def yX8_on : MethodName := ⟨RX8, "on", "(I)I"⟩
abbrev cX8_isRule : ByteArray := prog_10_method_75_code
def yX8_isRule : MethodName := ⟨RX8, "isRule", "(I)Z"⟩
abbrev cX8_rule : ByteArray := prog_10_method_76_code
def yX8_rule : MethodName := ⟨RX8, "rule", "(III)I"⟩
abbrev cX8_markOf : ByteArray := prog_10_method_77_code
def yX8_markOf : MethodName := ⟨RX8, "markOf", "(II)I"⟩
abbrev cX8_mark : ByteArray := prog_10_method_78_code
def yX8_mark : MethodName := ⟨RX8, "mark", "(II)I"⟩
abbrev cX8_hasAll : ByteArray := prog_10_method_79_code
def yX8_hasAll : MethodName := ⟨RX8, "hasAll", "(II)Z"⟩
abbrev cX8_takenMany : ByteArray := prog_10_method_80_code
def yX8_takenMany : MethodName := ⟨RX8, "takenMany", "(IIZ)I"⟩
abbrev cX8_may : ByteArray := prog_10_method_81_code
def yX8_may : MethodName := ⟨RX8, "may", "(IIZ)Z"⟩
abbrev cX8_firstOf : ByteArray := prog_10_method_82_code
def yX8_firstOf : MethodName := ⟨RX8, "firstOf", "(IIZ)I"⟩
abbrev cX8_waitsSince : ByteArray := prog_10_method_83_code
def yX8_waitsSince : MethodName := ⟨RX8, "waitsSince", "(I)I"⟩
abbrev cX8_chosen : ByteArray := prog_10_method_84_code
def yX8_chosen : MethodName := ⟨RX8, "chosen", "(II)I"⟩
abbrev cX8_runs : ByteArray := prog_10_method_85_code
def yX8_runs : MethodName := ⟨RX8, "runs", "(I)V"⟩
abbrev cX8_run : ByteArray := prog_10_method_86_code
def yX8_run : MethodName := ⟨RX8, "run", "(I)I"⟩
abbrev cX8_keep : ByteArray := prog_10_method_87_code
def yX8_keep : MethodName := ⟨RX8, "keep", "([I)V"⟩
abbrev cX8_back : ByteArray := prog_10_method_88_code
def yX8_back : MethodName := ⟨RX8, "back", "([I)V"⟩
abbrev cX8_layCard : ByteArray := prog_10_method_89_code
def yX8_layCard : MethodName := ⟨RX8, "layCard", "(I)V"⟩
abbrev cX8_best : ByteArray := prog_10_method_90_code
def yX8_best : MethodName := ⟨RX8, "best", "(I)I"⟩
abbrev cX8_copyEnd : ByteArray := prog_10_method_91_code
def yX8_copyEnd : MethodName := ⟨RX8, "copyEnd", "(II)I"⟩
abbrev cX8_freeCopy : ByteArray := prog_10_method_92_code
def yX8_freeCopy : MethodName := ⟨RX8, "freeCopy", "(I)I"⟩
abbrev cX8_isNext : ByteArray := prog_10_method_93_code
def yX8_isNext : MethodName := ⟨RX8, "isNext", "(I)Z"⟩
abbrev cX8_letsAll : ByteArray := prog_10_method_94_code
def yX8_letsAll : MethodName := ⟨RX8, "letsAll", "(II)Z"⟩
abbrev cX8_places : ByteArray := prog_10_method_95_code
def yX8_places : MethodName := ⟨RX8, "places", "(I)Z"⟩
abbrev cX8_missedLooked : ByteArray := prog_10_method_96_code
def yX8_missedLooked : MethodName := ⟨RX8, "missedLooked", "()I"⟩
abbrev cX8_worst : ByteArray := prog_10_method_97_code
def yX8_worst : MethodName := ⟨RX8, "worst", "()I"⟩
abbrev cX8_lastEnd : ByteArray := prog_10_method_98_code
def yX8_lastEnd : MethodName := ⟨RX8, "lastEnd", "()I"⟩
abbrev cX8_visit : ByteArray := prog_10_method_99_code
def yX8_visit : MethodName := ⟨RX8, "visit", "(I)V"⟩
abbrev cX8_search : ByteArray := prog_10_method_100_code
def yX8_search : MethodName := ⟨RX8, "search", "(I)V"⟩
abbrev cX8_begins : ByteArray := prog_10_method_101_code
def yX8_begins : MethodName := ⟨RX8, "begins", "(I)Z"⟩
abbrev cX8_allWants : ByteArray := prog_10_method_102_code
def yX8_allWants : MethodName := ⟨RX8, "allWants", "()I"⟩
abbrev cX8_least : ByteArray := prog_10_method_103_code
def yX8_least : MethodName := ⟨RX8, "least", "()I"⟩
abbrev cX8_mend : ByteArray := prog_10_method_104_code
def yX8_mend : MethodName := ⟨RX8, "mend", "(I)I"⟩
abbrev cX8_soon : ByteArray := prog_10_method_105_code
def yX8_soon : MethodName := ⟨RX8, "soon", "()I"⟩
abbrev cX8_even : ByteArray := prog_10_method_106_code
def yX8_even : MethodName := ⟨RX8, "even", "()I"⟩
abbrev cX8_bound : ByteArray := prog_10_method_107_code
def yX8_bound : MethodName := ⟨RX8, "bound", "()I"⟩
abbrev cX8_canAll : ByteArray := prog_10_method_108_code
def yX8_canAll : MethodName := ⟨RX8, "canAll", "(I)Z"⟩
abbrev cX8_quarrel : ByteArray := prog_10_method_109_code
def yX8_quarrel : MethodName := ⟨RX8, "quarrel", "()I"⟩
abbrev cX8_twice : ByteArray := prog_10_method_110_code
def yX8_twice : MethodName := ⟨RX8, "twice", "()I"⟩
abbrev cX8_counted : ByteArray := prog_10_method_111_code
def yX8_counted : MethodName := ⟨RX8, "counted", "(I)I"⟩
abbrev cX8_count : ByteArray := prog_10_method_112_code
def yX8_count : MethodName := ⟨RX8, "count", "(I)I"⟩
abbrev cX8_mix : ByteArray := prog_10_method_113_code
def yX8_mix : MethodName := ⟨RX8, "mix", "(J)V"⟩
abbrev cX8_mixHouse : ByteArray := prog_10_method_114_code
def yX8_mixHouse : MethodName := ⟨RX8, "mixHouse", "()V"⟩
abbrev cX8_digest : ByteArray := prog_10_method_115_code
def yX8_digest : MethodName := ⟨RX8, "digest", "()J"⟩
def RJ9 : String := "java/lang/Math"
def RJ10 : String := "java/lang/System"
def RL : String := "PaperRoundLaw"
abbrev cL_law : ByteArray := code
def yL_law : MethodName := ⟨RL, "law", "([I)Z"⟩
abbrev vwCl : List vw_C := [(RX0, TX0, 19), (RX1, TX1, 7), (RX2, TX2, 1), (RX3, TX3, 7), (RX4, TX4, 2), (RX5, TX5, 17), (RX6, TX6, 2), (RX7, TX7, 14), (RX8, TX8, 48)]
end
section
/-! A PURE SEMANTICS of the bytecode that the system uses, over a heap whose cells bear numbers: 0 is null, 1 the script, 2, 3 .. the cells in the order in which they are made.
A value: an int, a cell's number, a long. -/
abbrev z_Hp : Type := Nat × (Nat → Nat → Int32) × (Nat → Nat → Nat) × (Nat → Nat → Int64)
abbrev z_V : Type := Int32 ⊕ (Nat ⊕ Int64)
abbrev z_vi (x : Int32) : z_V := .inl x
abbrev z_vr (a : Nat) : z_V := .inr (.inl a)
abbrev z_vl (x : Int64) : z_V := .inr (.inr x)
abbrev z_Ls : Type := List (Option z_V)
abbrev z_R : Type := Option z_V × z_Hp
abbrev z_O : Type := Option z_R
abbrev z_K : Type := Nat → z_Ls → List z_V → z_Hp → z_O
abbrev z_C : Type := Nat → List z_V → z_Hp → z_O
abbrev z_Sc : Type := Nat × (Nat → Int32)
/-- what a heap holds: int i, cell's number, long of a cell's place -/
def z_I (h : z_Hp) (a k : Nat) : Int32 := h.2.1 a k
def z_F (h : z_Hp) (a k : Nat) : Nat := h.2.2.1 a k
def z_J (h : z_Hp) (a k : Nat) : Int64 := h.2.2.2 a k
def z_row {α : Type} (f : Nat → Nat → α) (a : Nat) (g : Nat → α) : Nat → Nat → α := fun b => if b = a then g else f b
def z_up {α : Type} (f : Nat → α) (k : Nat) (v : α) : Nat → α := fun j => if j = k then v else f j
def z_sI (h : z_Hp) (a k : Nat) (v : Int32) : z_Hp := (h.1, z_row h.2.1 a (z_up (h.2.1 a) k v), h.2.2.1, h.2.2.2)
def z_sF (h : z_Hp) (a k : Nat) (v : Nat) : z_Hp := (h.1, h.2.1, z_row h.2.2.1 a (z_up (h.2.2.1 a) k v), h.2.2.2)
def z_sJ (h : z_Hp) (a k : Nat) (v : Int64) : z_Hp := (h.1, h.2.1, h.2.2.1, z_row h.2.2.2 a (z_up (h.2.2.2 a) k v))
/-- n places of an int row come to another row's -/
def z_cp (f g : Nat → Int32) (sp dp n : Nat) : Nat → Int32 := fun k => if dp ≤ k ∧ k < dp + n then f (sp + (k - dp)) else g k
def z_cpI (h : z_Hp) (a sp b dp n : Nat) : z_Hp := (h.1, z_row h.2.1 b (z_cp (h.2.1 a) (h.2.1 b) sp dp n), h.2.2.1, h.2.2.2)
/-- a new cell: all its places are 0 -/
def z_nw (h : z_Hp) : z_Hp := (h.1 + 1, z_row h.2.1 (h.1 + 2) (fun _ => 0), z_row h.2.2.1 (h.1 + 2) (fun _ => 0), z_row h.2.2.2 (h.1 + 2) (fun _ => 0))
/-- an outer row of n inner ones -/
def z_nwm (h : z_Hp) (n : Nat) : z_Hp := (h.1 + 1 + n, (fun b => if h.1 + 2 ≤ b ∧ b < h.1 + 3 + n then (fun _ => 0) else h.2.1 b), z_row h.2.2.1 (h.1 + 2) (fun i => if i < n then h.1 + 3 + i else 0), h.2.2.2)
/-- int rows 10, long 11, byte 12, boolean 13, rows of Rules 14, rows of int rows 15; below 9 the classes -/
def z_gd (b : Bool) (x : z_O) : z_O := match b with
  | true => x
  | false => none
/-- a call's answer goes on -/
def z_ci (o : z_O) (f : Int32 → z_Hp → z_O) : z_O := match o with
  | some (some (.inl x), h) => f x h
  | _ => none
def z_cl (o : z_O) (f : Int64 → z_Hp → z_O) : z_O := match o with
  | some (some (.inr (.inr x)), h) => f x h
  | _ => none
def z_cv (o : z_O) (f : z_Hp → z_O) : z_O := match o with
  | some (none, h) => f h
  | _ => none
def z_ldi (ls : z_Ls) (k : Nat) (f : Int32 → z_O) : z_O := match ls[k]? with
  | some (some (.inl x)) => f x
  | _ => none
def z_ldr (ls : z_Ls) (k : Nat) (f : Nat → z_O) : z_O := match ls[k]? with
  | some (some (.inr (.inl x))) => f x
  | _ => none
def z_ldl (ls : z_Ls) (k : Nat) (f : Int64 → z_O) : z_O := match ls[k]? with
  | some (some (.inr (.inr x))) => f x
  | _ => none
def z_cat (v : z_V) : Nat := match v with
  | .inr (.inr _) => 2
  | _ => 1
def z_cats (st : List z_V) : Nat := match st with
  | [] => 0
  | v :: r => z_cat v + z_cats r
/-- a place may be stored to: it is there, and the one ahead of it is no long -/
def z_lo (o : Option (Option z_V)) : Bool := match o with
  | some (some (.inr (.inr _))) => false
  | _ => true
def z_sk (ls : z_Ls) (k : Nat) : Bool := Nat.blt k ls.length && (match k with
  | 0 => true
  | j + 1 => z_lo (ls[j]?))
/-- a switch's targets, one after the other -/
def z_sw (K : Nat → z_O) (pc : Nat) (x : Int32) (d : Int) : List (Int × Int) → z_O
  | [] => K ((pc : Int) + d).toNat
  | q :: r => if x = Int32.ofInt q.1 then K ((pc : Int) + q.2).toNat else z_sw K pc x d r
def z_tp (lo : Int) : List Int → List (Int × Int)
  | [] => []
  | o :: r => (lo, o) :: z_tp (lo + 1) r
end
section
/-! TABLES of the program, written by wip/whole/gen/tab.py -/
/-- each cell's kind and length, by its number -/
def z_kdl : List (Nat × Nat) := [(99, 0), (98, 0), (7, 14), (6, 2), (15, 6), (10, 48), (10, 48), (10, 48), (10, 48), (10, 48), (10, 48), (10, 6), (6, 2), (15, 4), (10, 120), (10, 120), (10, 120), (10, 120), (10, 4), (1, 7), (2, 1), (10, 24), (2, 1), (10, 24), (14, 6), (4, 2), (10, 8), (4, 2), (10, 8), (4, 2), (10, 8), (4, 2), (10, 8), (4, 2), (10, 8), (4, 2), (10, 8), (4, 2), (10, 8), (3, 7), (10, 8), (10, 12), (10, 12), (5, 17), (10, 24), (10, 8), (15, 9), (10, 8), (10, 8), (10, 8), (10, 8), (10, 8), (10, 8), (10, 8), (10, 8), (10, 8), (10, 8), (10, 8), (10, 24), (10, 8), (10, 12), (10, 6), (0, 19), (10, 6), (10, 6), (10, 6), (11, 6), (10, 8), (10, 8), (10, 8), (13, 8), (10, 24), (10, 24), (10, 24), (10, 24), (10, 24), (10, 24), (10, 24), (0, 19), (10, 6), (10, 6), (10, 6), (11, 6), (10, 8), (10, 8), (10, 8), (13, 8), (10, 24), (10, 24), (10, 24), (10, 24), (10, 24), (10, 24), (10, 24), (8, 48), (10, 6), (10, 6), (10, 288), (10, 48), (10, 4), (12, 480), (10, 18), (10, 24), (10, 96), (10, 24), (10, 24), (10, 18), (10, 24), (10, 96), (10, 24), (10, 24), (10, 24), (10, 6), (10, 48), (10, 8), (10, 24), (10, 24), (10, 24), (10, 9)]
def z_kd (a : Nat) : Nat × Nat := match z_kdl[a]? with
  | some q => q
  | none => (99, 0)
/-- each method: its answer (0 int, 1 long, 2 none), its class, its arguments (the object too), its places -/
def z_mtl : List (Nat × Nat × Nat × Nat) := [(2, 0, 1, 1), (2, 0, 1, 1), (0, 0, 2, 2), (0, 0, 2, 2), (0, 0, 2, 2), (0, 0, 3, 3), (0, 0, 3, 3), (0, 0, 3, 3), (2, 0, 4, 4), (2, 0, 4, 4), (2, 0, 4, 5), (2, 0, 4, 6), (2, 0, 4, 5), (0, 0, 3, 4), (0, 0, 3, 3), (0, 0, 3, 6), (0, 0, 4, 6), (0, 0, 2, 2), (2, 1, 1, 1), (0, 1, 4, 6), (0, 1, 1, 1), (0, 1, 2, 2), (0, 1, 1, 2), (0, 1, 3, 3), (0, 1, 3, 4), (0, 1, 1, 1), (0, 1, 1, 4), (0, 1, 1, 4), (0, 1, 1, 3), (0, 1, 1, 3), (0, 1, 1, 3), (2, 2, 1, 2), (2, 2, 1, 2), (2, 2, 3, 4), (0, 2, 3, 3), (0, 2, 3, 5), (0, 2, 4, 4), (0, 2, 3, 5), (0, 2, 2, 4), (0, 2, 3, 3), (0, 2, 2, 4), (0, 2, 3, 6), (0, 2, 3, 6), (0, 2, 3, 5), (2, 3, 1, 1), (2, 3, 4, 8), (0, 3, 2, 2), (0, 3, 2, 4), (0, 3, 2, 6), (0, 3, 2, 5), (0, 3, 2, 5), (0, 3, 3, 4), (0, 3, 3, 4), (0, 3, 2, 2), (0, 3, 3, 4), (2, 3, 3, 5), (2, 3, 2, 3), (2, 4, 1, 1), (0, 4, 1, 1), (0, 4, 2, 2), (2, 4, 2, 3), (0, 4, 2, 6), (2, 4, 3, 4), (2, 5, 1, 1), (2, 5, 4, 5), (2, 5, 3, 3), (2, 5, 2, 2), (0, 5, 2, 2), (2, 5, 2, 9), (2, 5, 2, 4), (0, 5, 2, 9), (0, 5, 1, 3), (0, 5, 2, 3), (0, 5, 2, 7), (0, 5, 2, 3), (2, 5, 4, 4), (2, 5, 3, 3), (2, 5, 3, 3), (2, 6, 3, 4), (0, 6, 2, 2), (0, 6, 2, 2), (0, 6, 3, 3), (0, 6, 4, 4), (2, 6, 4, 5), (0, 6, 1, 3), (1, 6, 2, 7), (2, 7, 1, 2), (0, 7, 3, 3), (0, 7, 4, 5), (0, 7, 3, 4), (0, 7, 2, 2), (0, 7, 6, 6), (0, 7, 2, 6), (0, 7, 3, 3), (0, 7, 4, 6), (0, 7, 2, 2), (0, 7, 2, 4), (0, 7, 3, 3), (0, 7, 3, 3), (0, 7, 3, 3), (0, 7, 3, 4), (0, 7, 4, 4), (0, 7, 4, 4), (0, 7, 3, 4), (0, 7, 1, 1), (0, 7, 2, 2), (0, 7, 3, 5), (0, 7, 3, 5), (0, 7, 2, 2), (0, 7, 2, 3), (0, 7, 4, 5), (0, 7, 3, 4), (0, 7, 2, 2), (0, 7, 2, 6), (0, 7, 1, 2), (0, 7, 2, 3), (0, 7, 1, 2), (0, 7, 1, 2), (0, 7, 1, 4), (0, 7, 1, 4), (0, 7, 1, 5), (0, 7, 1, 1), (0, 7, 2, 2), (0, 7, 1, 1), (0, 7, 2, 2), (1, 7, 1, 5), (0, 7, 2, 2), (0, 7, 1, 1), (0, 7, 3, 3), (0, 7, 2, 5), (0, 7, 2, 5), (0, 7, 2, 3), (0, 7, 2, 3), (2, 7, 2, 4), (1, 7, 2, 7), (2, 8, 1, 2), (0, 8, 3, 3), (0, 8, 2, 2), (0, 8, 1, 3), (0, 8, 2, 2), (0, 8, 2, 2), (0, 8, 1, 1), (0, 8, 2, 2), (0, 8, 3, 3), (0, 8, 1, 1), (0, 8, 1, 1), (0, 8, 3, 3), (0, 8, 3, 4), (0, 8, 4, 5), (0, 8, 3, 3), (0, 8, 2, 2), (0, 8, 6, 7), (0, 8, 2, 5), (0, 8, 1, 1), (0, 8, 3, 4), (0, 8, 4, 5), (0, 8, 3, 3), (0, 8, 3, 4), (0, 8, 4, 5), (0, 8, 4, 6), (0, 8, 2, 3), (0, 8, 2, 3), (0, 8, 2, 7), (0, 8, 3, 4), (0, 8, 2, 3), (0, 8, 2, 3), (0, 8, 2, 2), (0, 8, 2, 2), (0, 8, 2, 2), (0, 8, 2, 3), (0, 8, 2, 2), (0, 8, 2, 2), (0, 8, 2, 2), (0, 8, 2, 2), (0, 8, 2, 2), (0, 8, 2, 2), (0, 8, 2, 2), (0, 8, 2, 2), (0, 8, 2, 2), (0, 8, 2, 2), (0, 8, 2, 2), (0, 8, 4, 6), (0, 8, 4, 6), (0, 8, 3, 3), (0, 8, 3, 5), (0, 8, 3, 3), (0, 8, 3, 5), (0, 8, 3, 3), (0, 8, 3, 4), (0, 8, 4, 4), (0, 8, 4, 4), (0, 8, 2, 2), (0, 8, 2, 2), (0, 8, 3, 3), (0, 8, 3, 4), (0, 8, 3, 5), (0, 8, 4, 6), (0, 8, 3, 5), (0, 8, 3, 6), (0, 8, 3, 7), (0, 8, 1, 3), (0, 8, 1, 1), (0, 8, 3, 3), (0, 8, 2, 5), (0, 8, 2, 2), (0, 8, 3, 5), (0, 8, 3, 5), (0, 8, 2, 3), (0, 8, 2, 4), (0, 8, 1, 1), (0, 8, 4, 8), (0, 8, 3, 3), (0, 8, 3, 4), (0, 8, 3, 5), (0, 8, 4, 7), (0, 8, 4, 8), (0, 8, 4, 5), (0, 8, 2, 4), (0, 8, 3, 7), (2, 8, 2, 4), (0, 8, 2, 3), (2, 8, 2, 3), (2, 8, 2, 3), (2, 8, 2, 8), (0, 8, 2, 7), (0, 8, 3, 5), (0, 8, 2, 2), (0, 8, 2, 4), (0, 8, 3, 6), (0, 8, 2, 7), (0, 8, 1, 3), (0, 8, 1, 3), (0, 8, 1, 3), (2, 8, 2, 4), (2, 8, 2, 4), (0, 8, 2, 3), (0, 8, 1, 1), (0, 8, 1, 1), (0, 8, 2, 5), (0, 8, 1, 1), (0, 8, 1, 1), (0, 8, 1, 5), (0, 8, 2, 4), (0, 8, 1, 4), (0, 8, 1, 4), (0, 8, 2, 4), (0, 8, 2, 2), (2, 8, 2, 3), (2, 8, 1, 3), (1, 8, 1, 3), (0, 9, 1, 4)]
def z_mt (x : Nat) : Nat × Nat × Nat × Nat := match z_mtl[x]? with
  | some q => q
  | none => (9, 99, 0, 0)
abbrev z_mr (x : Nat) : Nat := (z_mt x).1
abbrev z_mc (x : Nat) : Nat := (z_mt x).2.1
abbrev z_mn (x : Nat) : Nat := (z_mt x).2.2.1
abbrev z_ml (x : Nat) : Nat := (z_mt x).2.2.2
def z_sn (x y : Nat) : Int := match y with
  | 0 => (x : Int)
  | _ => -(x : Int)
/-- the kind of each class's fields: 0 int, 1 cell, 2 long, 3 boolean -/
def z_fkl : List (List Nat) := [[0, 0, 0, 0, 1, 1, 1, 1, 1, 1, 1, 1, 1, 1, 1, 1, 1, 1, 1], [1, 0, 0, 0, 0, 0, 1], [1], [1, 1, 1, 0, 1, 1, 1], [0, 1], [0, 1, 1, 0, 0, 3, 0, 0, 0, 0, 1, 1, 1, 1, 1, 1, 1], [1, 1], [1, 1, 1, 1, 1, 1, 1, 1, 1, 1, 1, 1, 0, 0], [0, 1, 0, 1, 1, 1, 1, 1, 0, 0, 0, 0, 0, 0, 1, 1, 1, 1, 1, 0, 0, 0, 0, 0, 0, 0, 0, 1, 1, 1, 1, 1, 1, 1, 1, 1, 1, 1, 1, 0, 0, 3, 0, 0, 0, 0, 1, 2]]
def z_fk (c k : Nat) : Nat := match z_fkl[c]? with
  | some l => l.getD k 9
  | none => 9
end
section
/-! ONE INSTRUCTION, in the style of what goes on behind it (K), with the calls' answers (C). Beside the instruction stand three numbers x, y, z: what it links to.
getfield, putfield: class, field, kind of the field (0 int, 1 cell, 2 long, 3 boolean); rows: the row's kind (1: the script); calls: method, arguments (the object too), kind (0 virtual, 1 static, 2 constructor, 10 max, 11 min, 12 arraycopy, 13 Object's constructor) -/
def z_pi (st : List z_V) (f : Int32 → List z_V → z_O) : z_O := match st with
  | .inl x :: r => f x r
  | _ => none
def z_pr (st : List z_V) (f : Nat → List z_V → z_O) : z_O := match st with
  | .inr (.inl x) :: r => f x r
  | _ => none
def z_pl (st : List z_V) (f : Int64 → List z_V → z_O) : z_O := match st with
  | .inr (.inr x) :: r => f x r
  | _ => none
/-- a guard that its own text decides -/
def z_sg (b : Bool) (x : z_O) : z_O := match b with
  | true => x
  | false => none
def z_ob (h : z_Hp) (a c : Nat) : Bool := Nat.beq (z_kd a).1 c && Nat.blt a (h.1 + 2)
def z_in (i : Int32) (n : Nat) : Bool := !(decide (i < 0)) && Nat.blt i.toNatClampNeg n
def z_ar (h : z_Hp) (a t : Nat) (i : Int32) : Bool := Nat.beq (z_kd a).1 t && Nat.blt a (h.1 + 2) && z_in i (z_kd a).2
def z_bo (v : Int32) : Bool := decide (v = 0) || decide (v = 1)
def z_i0 (K : z_K) (ins : Jvm.ClassFile.Instr) (x y : Nat) (pc : Nat) (ls : z_Ls) (st : List z_V) (h : z_Hp) : z_O := match ins with
  | .iload k => z_ldi ls k (fun v => K (pc + 2) ls (z_vi v :: st) h)
  | .iload_n k => z_ldi ls k.val (fun v => K (pc + 1) ls (z_vi v :: st) h)
  | .aload_n k => z_ldr ls k.val (fun v => K (pc + 1) ls (z_vr v :: st) h)
  | .lload_n k => z_ldl ls k.val (fun v => K (pc + 1) ls (z_vl v :: st) h)
  | .istore k => z_pi st (fun v r => z_sg (z_sk ls k) (K (pc + 2) (ls.set k (some (z_vi v))) r h))
  | .istore_n k => z_pi st (fun v r => z_sg (z_sk ls k.val) (K (pc + 1) (ls.set k.val (some (z_vi v))) r h))
  | .astore_n k => z_pr st (fun v r => z_sg (z_sk ls k.val) (K (pc + 1) (ls.set k.val (some (z_vr v))) r h))
  | .lstore_n k => z_pl st (fun v r => z_sg (z_sk ls k.val && Nat.blt (k.val + 1) ls.length) (K (pc + 1) ((ls.set k.val (some (z_vl v))).set (k.val + 1) none) r h))
  | .iinc k n => z_ldi ls k (fun v => z_sg (z_sk ls k) (K (pc + 3) (ls.set k (some (z_vi (v + Int32.ofInt n)))) st h))
  | .iconst n => K (pc + 1) ls (z_vi (Int32.ofInt n) :: st) h
  | .bipush n => K (pc + 2) ls (z_vi (Int8.ofInt n).toInt32 :: st) h
  | .sipush n => K (pc + 3) ls (z_vi (Int16.ofInt n).toInt32 :: st) h
  | .lconst n => K (pc + 1) ls (z_vl (Int64.ofNat n.val) :: st) h
  | .ldc _ => K (pc + 2) ls (z_vi (Int32.ofInt (z_sn x y)) :: st) h
  | .ldc2_w _ => K (pc + 3) ls (z_vl (Int64.ofInt (z_sn x y)) :: st) h
  | .pop => match st with
    | v :: r => z_sg (Nat.beq (z_cat v) 1) (K (pc + 1) ls r h)
    | [] => none
  | .dup => match st with
    | v :: r => z_sg (Nat.beq (z_cat v) 1) (K (pc + 1) ls (v :: v :: r) h)
    | [] => none
  | .dup2 => match st with
    | .inr (.inr v) :: r => K (pc + 1) ls (z_vl v :: z_vl v :: r) h
    | v :: w :: r => z_sg (Nat.beq (z_cat v) 1 && Nat.beq (z_cat w) 1) (K (pc + 1) ls (v :: w :: v :: w :: r) h)
    | _ => none
  | _ => none
def z_i1 (K : z_K) (ins : Jvm.ClassFile.Instr) (pc : Nat) (ls : z_Ls) (st : List z_V) (h : z_Hp) : z_O := match ins with
  | .iadd => z_pi st (fun w r => z_pi r (fun v r => K (pc + 1) ls (z_vi (v + w) :: r) h))
  | .isub => z_pi st (fun w r => z_pi r (fun v r => K (pc + 1) ls (z_vi (v - w) :: r) h))
  | .imul => z_pi st (fun w r => z_pi r (fun v r => K (pc + 1) ls (z_vi (v * w) :: r) h))
  | .iand => z_pi st (fun w r => z_pi r (fun v r => K (pc + 1) ls (z_vi (v &&& w) :: r) h))
  | .ior => z_pi st (fun w r => z_pi r (fun v r => K (pc + 1) ls (z_vi (v ||| w) :: r) h))
  | .ixor => z_pi st (fun w r => z_pi r (fun v r => K (pc + 1) ls (z_vi (v ^^^ w) :: r) h))
  | .ishl => z_pi st (fun w r => z_pi r (fun v r => K (pc + 1) ls (z_vi (v <<< (w &&& 31)) :: r) h))
  | .ishr => z_pi st (fun w r => z_pi r (fun v r => K (pc + 1) ls (z_vi (v >>> (w &&& 31)) :: r) h))
  | .idiv => z_pi st (fun w r => z_pi r (fun v r => z_gd (!(decide (w = 0))) (K (pc + 1) ls (z_vi (v / w) :: r) h)))
  | .irem => z_pi st (fun w r => z_pi r (fun v r => z_gd (!(decide (w = 0))) (K (pc + 1) ls (z_vi (v - v / w * w) :: r) h)))
  | .ineg => z_pi st (fun v r => K (pc + 1) ls (z_vi (-v) :: r) h)
  | .i2l => z_pi st (fun v r => K (pc + 1) ls (z_vl v.toInt64 :: r) h)
  | .i2b => z_pi st (fun v r => K (pc + 1) ls (z_vi v.toInt8.toInt32 :: r) h)
  | .l2i => z_pl st (fun v r => K (pc + 1) ls (z_vi v.toInt32 :: r) h)
  | .ladd => z_pl st (fun w r => z_pl r (fun v r => K (pc + 1) ls (z_vl (v + w) :: r) h))
  | .lmul => z_pl st (fun w r => z_pl r (fun v r => K (pc + 1) ls (z_vl (v * w) :: r) h))
  | .land => z_pl st (fun w r => z_pl r (fun v r => K (pc + 1) ls (z_vl (v &&& w) :: r) h))
  | .lor => z_pl st (fun w r => z_pl r (fun v r => K (pc + 1) ls (z_vl (v ||| w) :: r) h))
  | .ldiv => z_pl st (fun w r => z_pl r (fun v r => z_gd (!(decide (w = 0))) (K (pc + 1) ls (z_vl (v / w) :: r) h)))
  | .lshl => z_pi st (fun w r => z_pl r (fun v r => K (pc + 1) ls (z_vl (v <<< (w.toInt64 &&& 63)) :: r) h))
  | .lshr => z_pi st (fun w r => z_pl r (fun v r => K (pc + 1) ls (z_vl (v >>> (w.toInt64 &&& 63)) :: r) h))
  | .lcmp => z_pl st (fun w r => z_pl r (fun v r => K (pc + 1) ls (z_vi (lg_cmp v w) :: r) h))
  | _ => none
def z_br (c : Jvm.ClassFile.Cond) (x y : Int32) (A B : z_O) : z_O := match c with
  | .eq => if x = y then A else B
  | .ne => if x = y then B else A
  | .lt => if x < y then A else B
  | .ge => if x < y then B else A
  | .gt => if y < x then A else B
  | .le => if y < x then B else A
def z_tg (pc : Nat) (o : Int) : Nat := ((pc : Int) + o).toNat
def z_i2 (K : z_K) (ins : Jvm.ClassFile.Instr) (z : Nat) (pc : Nat) (ls : z_Ls) (st : List z_V) (h : z_Hp) : z_O := match ins with
  | .if_icmp c o => z_pi st (fun w r => z_pi r (fun v r => z_br c v w (K (z_tg pc o) ls r h) (K (pc + 3) ls r h)))
  | .ifCond c o => z_pi st (fun v r => z_br c v 0 (K (z_tg pc o) ls r h) (K (pc + 3) ls r h))
  | .goto o => K (z_tg pc o) ls st h
  | .tableswitch d lo _ os => z_pi st (fun v r => z_sw (fun p => K p ls r h) pc v d (z_tp lo os.toList))
  | .lookupswitch d ps => z_pi st (fun v r => z_sw (fun p => K p ls r h) pc v d ps.toList)
  | .ireturn => match st with
    | [.inl v] => match z with
      | 3 => z_gd (z_bo v) (some (some (z_vi v), h))
      | _ => some (some (z_vi v), h)
    | _ => none
  | .lreturn => match st with
    | [.inr (.inr v)] => some (some (z_vl v), h)
    | _ => none
  | .return_ => match st with
    | [] => some (none, h)
    | _ => none
  | _ => none
def z_gv (h : z_Hp) (a y z : Nat) : z_V := match z with
  | 1 => z_vr (z_F h a y)
  | 2 => z_vl (z_J h a y)
  | _ => z_vi (z_I h a y)
def z_i3 (sc : z_Sc) (K : z_K) (ins : Jvm.ClassFile.Instr) (x y z : Nat) (pc : Nat) (ls : z_Ls) (st : List z_V) (h : z_Hp) : z_O := match ins with
  | .getfield _ => z_pr st (fun a r => z_gd (z_ob h a x) (K (pc + 3) ls (z_gv h a y z :: r) h))
  | .putfield _ => match z with
    | 0 => z_pi st (fun v r => z_pr r (fun a r => z_gd (z_ob h a x) (K (pc + 3) ls r (z_sI h a y v))))
    | 1 => z_pr st (fun v r => z_pr r (fun a r => z_gd (z_ob h a x) (K (pc + 3) ls r (z_sF h a y v))))
    | 2 => z_pl st (fun v r => z_pr r (fun a r => z_gd (z_ob h a x) (K (pc + 3) ls r (z_sJ h a y v))))
    | _ => z_pi st (fun v r => z_pr r (fun a r => z_gd (z_ob h a x && z_bo v) (K (pc + 3) ls r (z_sI h a y v))))
  | .iaload => match x with
    | 1 => z_pi st (fun i r => z_pr r (fun a r => z_gd (Nat.beq a 1 && z_in i sc.1) (K (pc + 1) ls (z_vi (sc.2 i.toNatClampNeg) :: r) h)))
    | _ => z_pi st (fun i r => z_pr r (fun a r => z_gd (z_ar h a 10 i) (K (pc + 1) ls (z_vi (z_I h a i.toNatClampNeg) :: r) h)))
  | .baload => z_pi st (fun i r => z_pr r (fun a r => z_gd (z_ar h a x i) (K (pc + 1) ls (z_vi (z_I h a i.toNatClampNeg) :: r) h)))
  | .laload => z_pi st (fun i r => z_pr r (fun a r => z_gd (z_ar h a 11 i) (K (pc + 1) ls (z_vl (z_J h a i.toNatClampNeg) :: r) h)))
  | .aaload => z_pi st (fun i r => z_pr r (fun a r => z_gd (z_ar h a x i) (K (pc + 1) ls (z_vr (z_F h a i.toNatClampNeg) :: r) h)))
  | .iastore => z_pi st (fun v r => z_pi r (fun i r => z_pr r (fun a r => z_gd (z_ar h a 10 i) (K (pc + 1) ls r (z_sI h a i.toNatClampNeg v)))))
  | .bastore => match x with
    | 12 => z_pi st (fun v r => z_pi r (fun i r => z_pr r (fun a r => z_gd (z_ar h a 12 i) (K (pc + 1) ls r (z_sI h a i.toNatClampNeg v.toInt8.toInt32)))))
    | _ => z_pi st (fun v r => z_pi r (fun i r => z_pr r (fun a r => z_gd (z_ar h a 13 i && z_bo v) (K (pc + 1) ls r (z_sI h a i.toNatClampNeg v)))))
  | .lastore => z_pl st (fun v r => z_pi r (fun i r => z_pr r (fun a r => z_gd (z_ar h a 11 i) (K (pc + 1) ls r (z_sJ h a i.toNatClampNeg v)))))
  | .aastore => z_pr st (fun v r => z_pi r (fun i r => z_pr r (fun a r => z_gd (z_ar h a 14 i && z_ob h v 4) (K (pc + 1) ls r (z_sF h a i.toNatClampNeg v)))))
  | .arraylength => match x with
    | 1 => z_pr st (fun a r => z_gd (Nat.beq a 1) (K (pc + 1) ls (z_vi (Int32.ofNat sc.1) :: r) h))
    | _ => z_pr st (fun a r => z_gd (Nat.beq (z_kd a).1 x && Nat.blt a (h.1 + 2)) (K (pc + 1) ls (z_vi (Int32.ofNat (z_kd a).2) :: r) h))
  | .new _ => z_gd (Nat.beq (z_kd (h.1 + 2)).1 x) (K (pc + 3) ls (z_vr (h.1 + 2) :: st) (z_nw h))
  | .newarray _ => z_pi st (fun n r => z_gd (Nat.beq (z_kd (h.1 + 2)).1 x && (!(decide (n < 0)) && Nat.beq (z_kd (h.1 + 2)).2 n.toNatClampNeg)) (K (pc + 2) ls (z_vr (h.1 + 2) :: r) (z_nw h)))
  | .anewarray _ => z_pi st (fun n r => z_gd (Nat.beq (z_kd (h.1 + 2)).1 14 && (!(decide (n < 0)) && Nat.beq (z_kd (h.1 + 2)).2 n.toNatClampNeg)) (K (pc + 3) ls (z_vr (h.1 + 2) :: r) (z_nw h)))
  | .multianewarray _ _ => z_pi st (fun k r => z_pi r (fun n r => z_gd ((Nat.beq (z_kd (h.1 + 2)).1 15 && (!(decide (n < 0)) && Nat.beq (z_kd (h.1 + 2)).2 n.toNatClampNeg)) && (!(decide (k < 0)) && (List.range n.toNatClampNeg).all (fun i => Nat.beq (z_kd (h.1 + 3 + i)).1 10 && Nat.beq (z_kd (h.1 + 3 + i)).2 k.toNatClampNeg))) (K (pc + 4) ls (z_vr (h.1 + 2) :: r) (z_nwm h n.toNatClampNeg))))
  | _ => none
/-- a call's answer by its kind: 0 int, 1 long, 2 nothing -/
def z_rt (q : Nat) (o : z_O) (K : z_K) (pc : Nat) (ls : z_Ls) (r : List z_V) : z_O := match q with
  | 0 => z_ci o (fun v h => K (pc + 3) ls (z_vi v :: r) h)
  | 1 => z_cl o (fun v h => K (pc + 3) ls (z_vl v :: r) h)
  | _ => z_cv o (fun h => K (pc + 3) ls r h)
def z_rc (h : z_Hp) (as : List z_V) (c : Nat) (x : z_O) : z_O := match as with
  | .inr (.inl a) :: _ => z_gd (z_ob h a c) x
  | _ => none
def z_i4 (C : z_C) (K : z_K) (x y z : Nat) (pc : Nat) (ls : z_Ls) (st : List z_V) (h : z_Hp) : z_O := match z with
  | 1 => z_sg (Nat.ble y st.length && Nat.ble (z_cats (st.drop y)) 8) (z_rt (z_mr x) (C x (st.take y).reverse h) K pc ls (st.drop y))
  | 10 => z_pi st (fun w r => z_pi r (fun v r => z_sg (Nat.ble (z_cats r) 8) (K (pc + 3) ls (z_vi (if v < w then w else v) :: r) h)))
  | 11 => z_pi st (fun w r => z_pi r (fun v r => z_sg (Nat.ble (z_cats r) 8) (K (pc + 3) ls (z_vi (if w < v then w else v) :: r) h)))
  | 12 => z_pi st (fun n r => z_pi r (fun dp r => z_pr r (fun b r => z_pi r (fun sp r => z_pr r (fun a r => z_sg (Nat.ble (z_cats r) 8) (z_gd ((Nat.beq (z_kd a).1 10 && Nat.blt a (h.1 + 2)) && (Nat.beq (z_kd b).1 10 && Nat.blt b (h.1 + 2)) && (!(decide (sp < 0)) && !(decide (dp < 0)) && !(decide (n < 0))) && (Nat.ble (sp.toNatClampNeg + n.toNatClampNeg) (z_kd a).2 && Nat.ble (dp.toNatClampNeg + n.toNatClampNeg) (z_kd b).2)) (K (pc + 3) ls r (z_cpI h a sp.toNatClampNeg b dp.toNatClampNeg n.toNatClampNeg))))))))
  | 13 => z_pr st (fun a r => z_sg (Nat.ble (z_cats r) 8) (z_gd (!(Nat.beq a 0)) (K (pc + 3) ls r h)))
  | _ => z_sg (Nat.ble y st.length && Nat.ble (z_cats (st.drop y)) 8) (z_rc h (st.take y).reverse (z_mc x) (z_rt (z_mr x) (C x (st.take y).reverse h) K pc ls (st.drop y)))
/-- a row of the program: group, instruction, what it links to (x, y, z), where its word stands in the tables (t, i) -/
abbrev z_En : Type := Nat × Jvm.ClassFile.Instr × Nat × Nat × Nat × Nat × Nat
def z_st (sc : z_Sc) (C : z_C) (K : z_K) (en : Option z_En) (pc : Nat) (ls : z_Ls) (st : List z_V) (h : z_Hp) : z_O := match en with
  | some (g, ins, x, y, z, _, _) => match g with
    | 0 => z_i0 K ins x y pc ls st h
    | 1 => z_i1 K ins pc ls st h
    | 2 => z_i2 K ins z pc ls st h
    | 3 => z_i3 sc K ins x y z pc ls st h
    | _ => z_i4 C K x y z pc ls st h
  | none => none
end
section
/-! THE METHODS as a table, written by wip/whole/gen/names.py: name, code, answer; kind (0 virtual, 1 static, 2 constructor); where its words stand: code, instanceMethod or static, selects, initialized -/
def z_mY0 : List (MethodName × ByteArray × Option FieldType) := [(yX0_init, cX0_init, none), (yX0_clear, cX0_clear, none), (yX0_hasPart, cX0_hasPart, (some .boolean)), (yX0_hasReader, cX0_hasReader, (some .boolean)), (yX0_hasWant, cX0_hasWant, (some .boolean)), (yX0_ofPart, cX0_ofPart, (some .int)), (yX0_ofReader, cX0_ofReader, (some .int)), (yX0_ofWant, cX0_ofWant, (some .int)), (yX0_addPart, cX0_addPart, none), (yX0_addReader, cX0_addReader, none), (yX0_addWant, cX0_addWant, none), (yX0_forbid, cX0_forbid, none), (yX0_cover, cX0_cover, none), (yX0_wantOf, cX0_wantOf, (some .int)), (yX0_worthAt, cX0_worthAt, (some .int)), (yX0_coveredFrom, cX0_coveredFrom, (some .int)), (yX0_comesAfter, cX0_comesAfter, (some .boolean)), (yX0_latestBegin, cX0_latestBegin, (some .int)), (yX1_init, cX1_init, none), (yX1_take, cX1_take, (some .int)), (yX1_look, cX1_look, (some .int)), (yX1_takeSign, cX1_takeSign, (some .boolean)), (yX1_figure, cX1_figure, (some .int)), (yX1_takeFigure, cX1_takeFigure, (some .boolean)), (yX1_takeMinute, cX1_takeMinute, (some .boolean)), (yX1_takeLast, cX1_takeLast, (some .boolean)), (yX1_takePart, cX1_takePart, (some .boolean)), (yX1_takeReader, cX1_takeReader, (some .boolean)), (yX1_takeWant, cX1_takeWant, (some .boolean)), (yX1_takeNot, cX1_takeNot, (some .boolean)), (yX1_takeCushion, cX1_takeCushion, (some .boolean)), (yX2_init, cX2_init, none), (yX2_clear, cX2_clear, none), (yX2_become, cX2_become, none), (yX2_isBegunAhead, cX2_isBegunAhead, (some .boolean)), (yX2_begunAhead, cX2_begunAhead, (some .int)), (yX2_isReadIn, cX2_isReadIn, (some .boolean)), (yX2_lossOf, cX2_lossOf, (some .int)), (yX2_lossOfAll, cX2_lossOfAll, (some .int)), (yX2_lossBy, cX2_lossBy, (some .int)), (yX2_firstWrong, cX2_firstWrong, (some .int)), (yX2_firstWrongOf, cX2_firstWrongOf, (some .int)), (yX2_isCrowded, cX2_isCrowded, (some .boolean)), (yX2_isInOrder, cX2_isInOrder, (some .boolean)), (yX3_init, cX3_init, none), (yX3_go, cX3_go, none), (yX3_pick, cX3_pick, (some .int)), (yX3_pickByCard, cX3_pickByCard, (some .int)), (yX3_pickNext, cX3_pickNext, (some .int)), (yX3_pickDear, cX3_pickDear, (some .int)), (yX3_pickShort, cX3_pickShort, (some .int)), (yX3_firstOf, cX3_firstOf, (some .int)), (yX3_mayBegin, cX3_mayBegin, (some .boolean)), (yX3_isThrough, cX3_isThrough, (some .boolean)), (yX3_freeCopy, cX3_freeCopy, (some .int)), (yX3_begin, cX3_begin, none), (yX3_letGo, cX3_letGo, none), (yX4_init, cX4_init, none), (yX4_isCard, cX4_isCard, (some .boolean)), (yX4_isOf, cX4_isOf, (some .boolean))]
def z_mY1 : List (MethodName × ByteArray × Option FieldType) := [(yX4_beginCard, cX4_beginCard, none), (yX4_nextCard, cX4_nextCard, (some .boolean)), (yX4_swap, cX4_swap, none), (yX5_init, cX5_init, none), (yX5_start, cX5_start, none), (yX5_keep, cX5_keep, none), (yX5_add, cX5_add, none), (yX5_go, cX5_go, (some .int)), (yX5_grow, cX5_grow, none), (yX5_weigh, cX5_weigh, none), (yX5_hope, cX5_hope, (some .int)), (yX5_worst, cX5_worst, (some .int)), (yX5_isNext, cX5_isNext, (some .boolean)), (yX5_earliest, cX5_earliest, (some .int)), (yX5_firstCopy, cX5_firstCopy, (some .int)), (yX5_place, cX5_place, none), (yX5_takeBack, cX5_takeBack, none), (yX5_miss, cX5_miss, none), (yX6_init, cX6_init, none), (yX6_has, cX6_has, (some .boolean)), (yX6_isMissing, cX6_isMissing, (some .boolean)), (yX6_lackAt, cX6_lackAt, (some .int)), (yX6_spans, cX6_spans, (some .boolean)), (yX6_begin, cX6_begin, none), (yX6_there, cX6_there, (some .int)), (yX6_digestOn, cX6_digestOn, (some .long)), (yX7_init, cX7_init, none), (yX7_row, cX7_row, (some .int)), (yX7_lay, cX7_lay, (some .int)), (yX7_at, cX7_at, (some .int)), (yX7_tear, cX7_tear, (some .int)), (yX7_copy, cX7_copy, (some .int)), (yX7_mean, cX7_mean, (some .int)), (yX7_text, cX7_text, (some .int)), (yX7_put, cX7_put, (some .int)), (yX7_fault, cX7_fault, (some .int)), (yX7_house, cX7_house, (some .int)), (yX7_part, cX7_part, (some .int)), (yX7_reader, cX7_reader, (some .int)), (yX7_want, cX7_want, (some .int)), (yX7_copies, cX7_copies, (some .int)), (yX7_post, cX7_post, (some .int)), (yX7_late, cX7_late, (some .int)), (yX7_read, cX7_read, (some .int)), (yX7_judge, cX7_judge, (some .int)), (yX7_missed, cX7_missed, (some .int)), (yX7_who, cX7_who, (some .int)), (yX7_can, cX7_can, (some .int)), (yX7_image, cX7_image, (some .int)), (yX7_on, cX7_on, (some .int)), (yX7_rule, cX7_rule, (some .int)), (yX7_mark, cX7_mark, (some .int)), (yX7_run, cX7_run, (some .int)), (yX7_best, cX7_best, (some .int)), (yX7_least, cX7_least, (some .int)), (yX7_mend, cX7_mend, (some .int)), (yX7_soon, cX7_soon, (some .int)), (yX7_even, cX7_even, (some .int)), (yX7_bound, cX7_bound, (some .int)), (yX7_quarrel, cX7_quarrel, (some .int))]
def z_mY2 : List (MethodName × ByteArray × Option FieldType) := [(yX7_twice, cX7_twice, (some .int)), (yX7_asked, cX7_asked, (some .int)), (yX7_count, cX7_count, (some .int)), (yX7_finding, cX7_finding, (some .int)), (yX7_findings, cX7_findings, (some .int)), (yX7_digest, cX7_digest, (some .long)), (yX7_found, cX7_found, (some .int)), (yX7_isBeginning, cX7_isBeginning, (some .boolean)), (yX7_ofWant, cX7_ofWant, (some .int)), (yX7_lackOfCard, cX7_lackOfCard, (some .int)), (yX7_rulesThere, cX7_rulesThere, (some .int)), (yX7_searchAll, cX7_searchAll, (some .int)), (yX7_canAllHaveAll, cX7_canAllHaveAll, (some .boolean)), (yX7_keepAhead, cX7_keepAhead, none), (yX7_digestOfHouse, cX7_digestOfHouse, (some .long)), (yX8_init, cX8_init, none), (yX8_in, cX8_in, (some .boolean)), (yX8_has, cX8_has, (some .boolean)), (yX8_bits, cX8_bits, (some .int)), (yX8_greater, cX8_greater, (some .int)), (yX8_meets, cX8_meets, (some .int)), (yX8_finding, cX8_finding, (some .int)), (yX8_findings, cX8_findings, (some .int)), (yX8_tells, cX8_tells, (some .int)), (yX8_asked, cX8_asked, (some .int)), (yX8_isRow, cX8_isRow, (some .boolean)), (yX8_rowAt, cX8_rowAt, (some .int)), (yX8_row, cX8_row, (some .int)), (yX8_lay, cX8_lay, (some .int)), (yX8_at, cX8_at, (some .int)), (yX8_tear, cX8_tear, (some .int)), (yX8_copy, cX8_copy, (some .int)), (yX8_mean, cX8_mean, (some .int)), (yX8_isText, cX8_isText, (some .boolean)), (yX8_text, cX8_text, (some .int)), (yX8_put, cX8_put, (some .int)), (yX8_byteAt, cX8_byteAt, (some .int)), (yX8_sign, cX8_sign, (some .boolean)), (yX8_figure, cX8_figure, (some .boolean)), (yX8_minute, cX8_minute, (some .boolean)), (yX8_readsLast, cX8_readsLast, (some .boolean)), (yX8_readsPart, cX8_readsPart, (some .boolean)), (yX8_readsReader, cX8_readsReader, (some .boolean)), (yX8_readsWant, cX8_readsWant, (some .boolean)), (yX8_readsNot, cX8_readsNot, (some .boolean)), (yX8_readsCushion, cX8_readsCushion, (some .boolean)), (yX8_readsItem, cX8_readsItem, (some .boolean)), (yX8_faultOf, cX8_faultOf, (some .int)), (yX8_fault, cX8_fault, (some .int)), (yX8_house, cX8_house, (some .int)), (yX8_isPart, cX8_isPart, (some .boolean)), (yX8_isReader, cX8_isReader, (some .boolean)), (yX8_isWant, cX8_isWant, (some .boolean)), (yX8_readerOf, cX8_readerOf, (some .int)), (yX8_partOf, cX8_partOf, (some .int)), (yX8_minutesOf, cX8_minutesOf, (some .int)), (yX8_copiesOf, cX8_copiesOf, (some .int)), (yX8_comesAt, cX8_comesAt, (some .int)), (yX8_from, cX8_from, (some .int)), (yX8_till, cX8_till, (some .int))]
def z_mY3 : List (MethodName × ByteArray × Option FieldType) := [(yX8_isInOrder, cX8_isInOrder, (some .boolean)), (yX8_isNotAfter, cX8_isNotAfter, (some .boolean)), (yX8_isUnder, cX8_isUnder, (some .boolean)), (yX8_part, cX8_part, (some .int)), (yX8_readerTells, cX8_readerTells, (some .int)), (yX8_reader, cX8_reader, (some .int)), (yX8_wantTells, cX8_wantTells, (some .int)), (yX8_want, cX8_want, (some .int)), (yX8_copies, cX8_copies, (some .int)), (yX8_post, cX8_post, (some .int)), (yX8_late, cX8_late, (some .int)), (yX8_isRead, cX8_isRead, (some .boolean)), (yX8_endOf, cX8_endOf, (some .int)), (yX8_isReading, cX8_isReading, (some .boolean)), (yX8_read, cX8_read, (some .int)), (yX8_readingMany, cX8_readingMany, (some .int)), (yX8_doesRead, cX8_doesRead, (some .boolean)), (yX8_isDue, cX8_isDue, (some .boolean)), (yX8_isSpoilt, cX8_isSpoilt, (some .boolean)), (yX8_isWell, cX8_isWell, (some .boolean)), (yX8_firstBad, cX8_firstBad, (some .int)), (yX8_judge, cX8_judge, (some .int)), (yX8_worthAt, cX8_worthAt, (some .int)), (yX8_missedOf, cX8_missedOf, (some .int)), (yX8_missed, cX8_missed, (some .int)), (yX8_who, cX8_who, (some .int)), (yX8_can, cX8_can, (some .int)), (yX8_image, cX8_image, (some .int)), (yX8_on, cX8_on, (some .int)), (yX8_isRule, cX8_isRule, (some .boolean)), (yX8_rule, cX8_rule, (some .int)), (yX8_markOf, cX8_markOf, (some .int)), (yX8_mark, cX8_mark, (some .int)), (yX8_hasAll, cX8_hasAll, (some .boolean)), (yX8_takenMany, cX8_takenMany, (some .int)), (yX8_may, cX8_may, (some .boolean)), (yX8_firstOf, cX8_firstOf, (some .int)), (yX8_waitsSince, cX8_waitsSince, (some .int)), (yX8_chosen, cX8_chosen, (some .int)), (yX8_runs, cX8_runs, none), (yX8_run, cX8_run, (some .int)), (yX8_keep, cX8_keep, none), (yX8_back, cX8_back, none), (yX8_layCard, cX8_layCard, none), (yX8_best, cX8_best, (some .int)), (yX8_copyEnd, cX8_copyEnd, (some .int)), (yX8_freeCopy, cX8_freeCopy, (some .int)), (yX8_isNext, cX8_isNext, (some .boolean)), (yX8_letsAll, cX8_letsAll, (some .boolean)), (yX8_places, cX8_places, (some .boolean)), (yX8_missedLooked, cX8_missedLooked, (some .int)), (yX8_worst, cX8_worst, (some .int)), (yX8_lastEnd, cX8_lastEnd, (some .int)), (yX8_visit, cX8_visit, none), (yX8_search, cX8_search, none), (yX8_begins, cX8_begins, (some .boolean)), (yX8_allWants, cX8_allWants, (some .int)), (yX8_least, cX8_least, (some .int)), (yX8_mend, cX8_mend, (some .int)), (yX8_soon, cX8_soon, (some .int))]
def z_mY4 : List (MethodName × ByteArray × Option FieldType) := [(yX8_even, cX8_even, (some .int)), (yX8_bound, cX8_bound, (some .int)), (yX8_canAll, cX8_canAll, (some .boolean)), (yX8_quarrel, cX8_quarrel, (some .int)), (yX8_twice, cX8_twice, (some .int)), (yX8_counted, cX8_counted, (some .int)), (yX8_count, cX8_count, (some .int)), (yX8_mix, cX8_mix, none), (yX8_mixHouse, cX8_mixHouse, none), (yX8_digest, cX8_digest, (some .long)), (yL_law, cL_law, some .boolean)]
def z_mY : List (MethodName × ByteArray × Option FieldType) := z_mY0 ++ z_mY1 ++ z_mY2 ++ z_mY3 ++ z_mY4
def z_mk : List Nat := [2, 0, 0, 0, 0, 0, 0, 0, 0, 0, 0, 0, 0, 0, 0, 0, 0, 0, 2, 0, 0, 0, 0, 0, 0, 0, 0, 0, 0, 0, 0, 2, 0, 0, 0, 0, 0, 0, 0, 0, 0, 0, 0, 0, 2, 0, 0, 0, 0, 0, 0, 0, 0, 0, 0, 0, 0, 2, 0, 0, 0, 0, 0, 2, 0, 0, 0, 0, 1, 0, 0, 1, 0, 0, 0, 0, 0, 0, 2, 0, 0, 0, 0, 0, 0, 0, 2, 0, 0, 0, 0, 0, 0, 0, 0, 0, 0, 0, 0, 0, 0, 0, 0, 0, 0, 0, 0, 0, 0, 0, 0, 0, 0, 0, 0, 0, 0, 0, 0, 0, 0, 0, 0, 0, 0, 0, 0, 1, 0, 0, 0, 0, 0, 0, 0, 2, 1, 1, 1, 1, 0, 0, 0, 0, 0, 1, 0, 0, 0, 0, 0, 0, 0, 1, 0, 0, 0, 0, 0, 0, 0, 0, 0, 0, 0, 0, 0, 0, 0, 0, 0, 0, 0, 0, 0, 0, 0, 0, 0, 0, 0, 0, 0, 0, 0, 0, 0, 0, 0, 0, 0, 0, 0, 0, 0, 0, 0, 0, 0, 0, 0, 0, 0, 0, 0, 0, 0, 0, 0, 1, 0, 0, 0, 0, 0, 0, 0, 0, 0, 0, 0, 0, 0, 0, 0, 0, 0, 0, 0, 0, 0, 0, 0, 0, 0, 0, 0, 0, 0, 0, 0, 0, 0, 0, 0, 0, 0, 0, 0, 0, 1]
def z_mP0 : List ((Nat × Nat) × (Nat × Nat) × (Nat × Nat) × (Nat × Nat)) := [((1, 189), (1, 188), (99, 0), (1, 8)), ((2, 171), (2, 169), (2, 170), (1, 8)), ((2, 219), (2, 217), (2, 218), (1, 8)), ((3, 29), (3, 27), (3, 28), (1, 8)), ((3, 41), (3, 39), (3, 40), (1, 8)), ((3, 21), (3, 19), (3, 20), (1, 8)), ((3, 33), (3, 31), (3, 32), (1, 8)), ((3, 49), (3, 47), (3, 48), (1, 8)), ((2, 203), (2, 201), (2, 202), (1, 8)), ((2, 211), (2, 209), (2, 210), (1, 8)), ((2, 227), (2, 225), (2, 226), (1, 8)), ((2, 235), (2, 233), (2, 234), (1, 8)), ((3, 4), (3, 2), (3, 3), (1, 8)), ((2, 223), (2, 221), (2, 222), (1, 8)), ((3, 127), (3, 125), (3, 126), (1, 8)), ((3, 110), (3, 108), (3, 109), (1, 8)), ((3, 96), (3, 94), (3, 95), (1, 8)), ((3, 100), (3, 98), (3, 99), (1, 8)), ((1, 42), (1, 41), (99, 0), (1, 3)), ((2, 167), (2, 165), (2, 166), (1, 3)), ((2, 175), (2, 174), (0, 1), (1, 3)), ((2, 179), (2, 178), (0, 2), (1, 3)), ((2, 191), (2, 190), (0, 5), (1, 3)), ((2, 199), (2, 198), (0, 7), (1, 3)), ((2, 187), (2, 186), (0, 4), (1, 3)), ((2, 183), (2, 182), (0, 3), (1, 3)), ((2, 195), (2, 194), (0, 6), (1, 3)), ((2, 207), (2, 206), (0, 8), (1, 3)), ((2, 215), (2, 214), (0, 9), (1, 3)), ((2, 231), (2, 230), (0, 10), (1, 3)), ((3, 0), (2, 239), (0, 11), (1, 3)), ((1, 70), (1, 69), (99, 0), (1, 4)), ((3, 12), (3, 10), (3, 11), (1, 4)), ((3, 153), (3, 151), (3, 152), (1, 4)), ((4, 85), (4, 83), (4, 84), (1, 4)), ((4, 81), (4, 79), (4, 80), (1, 4)), ((3, 88), (3, 86), (3, 87), (1, 4)), ((3, 132), (3, 130), (3, 131), (1, 4)), ((3, 119), (3, 117), (3, 118), (1, 4)), ((3, 123), (3, 122), (0, 16), (1, 4)), ((3, 76), (3, 74), (3, 75), (1, 4)), ((3, 80), (3, 79), (0, 13), (1, 4)), ((3, 84), (3, 83), (0, 14), (1, 4)), ((3, 92), (3, 91), (0, 15), (1, 4)), ((1, 100), (1, 99), (99, 0), (1, 6)), ((3, 181), (3, 179), (3, 180), (1, 6)), ((3, 186), (3, 185), (0, 18), (1, 6)), ((3, 223), (3, 222), (0, 26), (1, 6)), ((3, 190), (3, 189), (0, 19), (1, 6)), ((3, 214), (3, 213), (0, 24), (1, 6)), ((3, 219), (3, 218), (0, 25), (1, 6)), ((3, 194), (3, 193), (0, 20), (1, 6)), ((3, 203), (3, 202), (0, 22), (1, 6)), ((3, 199), (3, 198), (0, 21), (1, 6)), ((3, 208), (3, 207), (0, 23), (1, 6)), ((3, 227), (3, 226), (0, 27), (1, 6)), ((3, 231), (3, 230), (0, 28), (1, 6)), ((1, 83), (1, 82), (99, 0), (1, 5)), ((3, 173), (3, 171), (3, 172), (1, 5)), ((3, 169), (3, 167), (3, 168), (1, 5))]
def z_mP1 : List ((Nat × Nat) × (Nat × Nat) × (Nat × Nat) × (Nat × Nat)) := [((3, 239), (3, 237), (3, 238), (1, 5)), ((4, 4), (4, 2), (4, 3), (1, 5)), ((4, 9), (4, 8), (0, 29), (1, 5)), ((1, 128), (1, 127), (99, 0), (1, 7)), ((4, 21), (4, 19), (4, 20), (1, 7)), ((4, 93), (4, 91), (4, 92), (1, 7)), ((4, 25), (4, 23), (4, 24), (1, 7)), ((4, 33), (4, 31), (4, 32), (1, 7)), ((4, 37), (4, 36), (99, 0), (1, 7)), ((4, 41), (4, 40), (0, 32), (1, 7)), ((4, 49), (4, 48), (0, 33), (1, 7)), ((4, 44), (4, 43), (99, 0), (1, 7)), ((4, 65), (4, 64), (0, 36), (1, 7)), ((4, 53), (4, 52), (0, 34), (1, 7)), ((4, 57), (4, 56), (0, 35), (1, 7)), ((4, 69), (4, 68), (0, 37), (1, 7)), ((4, 73), (4, 72), (0, 38), (1, 7)), ((4, 29), (4, 28), (0, 31), (1, 7)), ((1, 24), (1, 23), (99, 0), (1, 2)), ((2, 107), (2, 105), (2, 106), (1, 2)), ((2, 127), (2, 125), (2, 126), (1, 2)), ((2, 123), (2, 121), (2, 122), (1, 2)), ((2, 144), (2, 142), (2, 143), (1, 2)), ((2, 115), (2, 113), (2, 114), (1, 2)), ((4, 134), (4, 132), (4, 133), (1, 2)), ((4, 157), (4, 155), (4, 156), (1, 2)), ((1, 16), (1, 15), (99, 0), (1, 1)), ((2, 103), (2, 101), (2, 102), (1, 1)), ((2, 119), (2, 117), (2, 118), (1, 1)), ((2, 131), (2, 129), (2, 130), (1, 1)), ((2, 135), (2, 133), (2, 134), (1, 1)), ((2, 140), (2, 138), (2, 139), (1, 1)), ((2, 151), (2, 149), (2, 150), (1, 1)), ((2, 155), (2, 153), (2, 154), (1, 1)), ((2, 159), (2, 157), (2, 158), (1, 1)), ((2, 163), (2, 161), (2, 162), (1, 1)), ((3, 8), (3, 6), (3, 7), (1, 1)), ((3, 16), (3, 14), (3, 15), (1, 1)), ((3, 25), (3, 23), (3, 24), (1, 1)), ((3, 37), (3, 35), (3, 36), (1, 1)), ((3, 53), (3, 51), (3, 52), (1, 1)), ((3, 57), (3, 55), (3, 56), (1, 1)), ((3, 61), (3, 59), (3, 60), (1, 1)), ((3, 65), (3, 63), (3, 64), (1, 1)), ((3, 72), (3, 70), (3, 71), (1, 1)), ((3, 115), (3, 113), (3, 114), (1, 1)), ((3, 136), (3, 134), (3, 135), (1, 1)), ((3, 141), (3, 139), (3, 140), (1, 1)), ((3, 145), (3, 143), (3, 144), (1, 1)), ((3, 149), (3, 147), (3, 148), (1, 1)), ((3, 157), (3, 155), (3, 156), (1, 1)), ((3, 165), (3, 163), (3, 164), (1, 1)), ((3, 177), (3, 175), (3, 176), (1, 1)), ((3, 235), (3, 233), (3, 234), (1, 1)), ((4, 13), (4, 11), (4, 12), (1, 1)), ((4, 77), (4, 75), (4, 76), (1, 1)), ((4, 98), (4, 96), (4, 97), (1, 1)), ((4, 102), (4, 100), (4, 101), (1, 1)), ((4, 106), (4, 104), (4, 105), (1, 1)), ((4, 110), (4, 108), (4, 109), (1, 1))]
def z_mP2 : List ((Nat × Nat) × (Nat × Nat) × (Nat × Nat) × (Nat × Nat)) := [((4, 118), (4, 116), (4, 117), (1, 1)), ((4, 122), (4, 120), (4, 121), (1, 1)), ((4, 126), (4, 124), (4, 125), (1, 1)), ((4, 138), (4, 136), (4, 137), (1, 1)), ((4, 142), (4, 140), (4, 141), (1, 1)), ((4, 146), (4, 144), (4, 145), (1, 1)), ((2, 111), (2, 110), (0, 0), (1, 1)), ((3, 68), (3, 67), (99, 0), (1, 1)), ((3, 45), (3, 44), (0, 12), (1, 1)), ((3, 161), (3, 160), (0, 17), (1, 1)), ((4, 130), (4, 129), (0, 41), (1, 1)), ((4, 17), (4, 16), (0, 30), (1, 1)), ((4, 114), (4, 113), (0, 40), (1, 1)), ((4, 89), (4, 88), (0, 39), (1, 1)), ((4, 153), (4, 152), (0, 42), (1, 1)), ((4, 163), (4, 162), (99, 0), (1, 9)), ((5, 81), (5, 80), (99, 0), (1, 9)), ((5, 178), (5, 177), (99, 0), (1, 9)), ((6, 191), (6, 190), (99, 0), (1, 9)), ((6, 97), (6, 96), (99, 0), (1, 9)), ((5, 96), (5, 95), (0, 43), (1, 9)), ((5, 74), (5, 72), (5, 73), (1, 9)), ((5, 78), (5, 76), (5, 77), (1, 9)), ((5, 108), (5, 107), (0, 45), (1, 9)), ((5, 85), (5, 83), (5, 84), (1, 9)), ((5, 92), (5, 91), (99, 0), (1, 9)), ((5, 104), (5, 103), (0, 44), (1, 9)), ((5, 89), (5, 87), (5, 88), (1, 9)), ((5, 100), (5, 98), (5, 99), (1, 9)), ((5, 112), (5, 110), (5, 111), (1, 9)), ((5, 116), (5, 114), (5, 115), (1, 9)), ((5, 120), (5, 118), (5, 119), (1, 9)), ((5, 124), (5, 122), (5, 123), (1, 9)), ((5, 131), (5, 130), (99, 0), (1, 9)), ((5, 128), (5, 126), (5, 127), (1, 9)), ((5, 135), (5, 133), (5, 134), (1, 9)), ((5, 147), (5, 146), (0, 47), (1, 9)), ((5, 171), (5, 170), (0, 53), (1, 9)), ((5, 167), (5, 166), (0, 52), (1, 9)), ((5, 159), (5, 158), (0, 50), (1, 9)), ((5, 155), (5, 154), (0, 49), (1, 9)), ((5, 163), (5, 162), (0, 51), (1, 9)), ((5, 175), (5, 174), (0, 54), (1, 9)), ((5, 182), (5, 181), (0, 55), (1, 9)), ((5, 186), (5, 185), (0, 56), (1, 9)), ((5, 190), (5, 189), (0, 57), (1, 9)), ((5, 151), (5, 150), (0, 48), (1, 9)), ((5, 143), (5, 142), (0, 46), (1, 9)), ((5, 139), (5, 137), (5, 138), (1, 9)), ((5, 194), (5, 192), (5, 193), (1, 9)), ((5, 202), (5, 201), (0, 58), (1, 9)), ((5, 210), (5, 209), (0, 59), (1, 9)), ((5, 226), (5, 225), (0, 62), (1, 9)), ((5, 218), (5, 217), (0, 61), (1, 9)), ((5, 234), (5, 233), (0, 64), (1, 9)), ((6, 38), (6, 37), (0, 70), (1, 9)), ((6, 66), (6, 65), (0, 77), (1, 9)), ((6, 54), (6, 53), (0, 74), (1, 9)), ((6, 46), (6, 45), (0, 72), (1, 9)), ((6, 50), (6, 49), (0, 73), (1, 9))]
def z_mP3 : List ((Nat × Nat) × (Nat × Nat) × (Nat × Nat) × (Nat × Nat)) := [((6, 78), (6, 77), (0, 80), (1, 9)), ((5, 238), (5, 237), (0, 65), (1, 9)), ((6, 58), (6, 57), (0, 75), (1, 9)), ((5, 198), (5, 196), (5, 197), (1, 9)), ((5, 214), (5, 213), (0, 60), (1, 9)), ((5, 206), (5, 204), (5, 205), (1, 9)), ((5, 230), (5, 229), (0, 63), (1, 9)), ((5, 222), (5, 220), (5, 221), (1, 9)), ((6, 2), (6, 0), (6, 1), (1, 9)), ((6, 6), (6, 4), (6, 5), (1, 9)), ((6, 10), (6, 8), (6, 9), (1, 9)), ((6, 30), (6, 29), (0, 68), (1, 9)), ((6, 34), (6, 33), (0, 69), (1, 9)), ((6, 26), (6, 25), (0, 67), (1, 9)), ((6, 14), (6, 12), (6, 13), (1, 9)), ((6, 62), (6, 61), (0, 76), (1, 9)), ((6, 70), (6, 69), (0, 78), (1, 9)), ((6, 74), (6, 73), (0, 79), (1, 9)), ((6, 82), (6, 81), (0, 81), (1, 9)), ((6, 42), (6, 41), (0, 71), (1, 9)), ((6, 22), (6, 21), (0, 66), (1, 9)), ((6, 18), (6, 16), (6, 17), (1, 9)), ((6, 94), (6, 93), (0, 83), (1, 9)), ((6, 90), (6, 89), (0, 82), (1, 9)), ((6, 86), (6, 84), (6, 85), (1, 9)), ((6, 101), (6, 99), (6, 100), (1, 9)), ((6, 105), (6, 103), (6, 104), (1, 9)), ((6, 109), (6, 107), (6, 108), (1, 9)), ((6, 113), (6, 111), (6, 112), (1, 9)), ((6, 120), (6, 119), (99, 0), (1, 9)), ((6, 117), (6, 115), (6, 116), (1, 9)), ((6, 128), (6, 127), (0, 84), (1, 9)), ((6, 124), (6, 122), (6, 123), (1, 9)), ((6, 152), (6, 151), (0, 89), (1, 9)), ((6, 148), (6, 147), (0, 88), (1, 9)), ((6, 144), (6, 143), (0, 87), (1, 9)), ((6, 156), (6, 155), (0, 90), (1, 9)), ((6, 160), (6, 159), (0, 91), (1, 9)), ((6, 140), (6, 139), (0, 86), (1, 9)), ((6, 136), (6, 135), (0, 85), (1, 9)), ((6, 132), (6, 130), (6, 131), (1, 9)), ((6, 168), (6, 167), (0, 92), (1, 9)), ((6, 176), (6, 175), (0, 94), (1, 9)), ((6, 172), (6, 171), (0, 93), (1, 9)), ((6, 164), (6, 162), (6, 163), (1, 9)), ((6, 227), (6, 226), (0, 105), (1, 9)), ((6, 223), (6, 222), (0, 104), (1, 9)), ((6, 219), (6, 218), (0, 103), (1, 9)), ((6, 231), (6, 230), (0, 106), (1, 9)), ((6, 215), (6, 214), (0, 102), (1, 9)), ((6, 203), (6, 202), (0, 99), (1, 9)), ((6, 211), (6, 210), (0, 101), (1, 9)), ((6, 207), (6, 206), (0, 100), (1, 9)), ((6, 199), (6, 198), (0, 98), (1, 9)), ((6, 195), (6, 194), (0, 97), (1, 9)), ((6, 188), (6, 187), (0, 96), (1, 9)), ((6, 184), (6, 183), (0, 95), (1, 9)), ((6, 180), (6, 178), (6, 179), (1, 9)), ((6, 235), (6, 233), (6, 234), (1, 9)), ((6, 239), (6, 237), (6, 238), (1, 9))]
def z_mP4 : List ((Nat × Nat) × (Nat × Nat) × (Nat × Nat) × (Nat × Nat)) := [((7, 3), (7, 1), (7, 2), (1, 9)), ((7, 7), (7, 5), (7, 6), (1, 9)), ((7, 15), (7, 14), (0, 107), (1, 9)), ((7, 11), (7, 9), (7, 10), (1, 9)), ((7, 19), (7, 17), (7, 18), (1, 9)), ((7, 27), (7, 26), (0, 108), (1, 9)), ((7, 23), (7, 21), (7, 22), (1, 9)), ((7, 36), (7, 35), (0, 109), (1, 9)), ((7, 41), (7, 40), (0, 110), (1, 9)), ((7, 31), (7, 29), (7, 30), (1, 9)), ((99, 0), (99, 0), (99, 0), (99, 0))]
def z_mP : List ((Nat × Nat) × (Nat × Nat) × (Nat × Nat) × (Nat × Nat)) := z_mP0 ++ z_mP1 ++ z_mP2 ++ z_mP3 ++ z_mP4
end
section
/-! RUNS: so many steps, calls so deep; their limit; its equation; unfolding by a bounded number of steps -/
abbrev z_Pg : Type := List (Nat × Nat × z_En)
def z_gt : z_Pg → Nat → Option z_En
  | [], _ => none
  | q :: r, pc => match Nat.beq q.1 pc with
    | true => some q.2.2
    | false => z_gt r pc
def z_rn (sc : z_Sc) (C : z_C) (L : z_Pg) : Nat → z_K
  | 0 => fun _ _ _ _ => none
  | n + 1 => fun pc ls st h => z_st sc C (z_rn sc C L n) (z_gt L pc) pc ls st h
def z_lay : List z_V → z_Ls
  | [] => []
  | .inr (.inr v) :: r => some (z_vl v) :: none :: z_lay r
  | v :: r => some v :: z_lay r
def z_ent (as : List z_V) (n : Nat) : z_Ls := z_lay as ++ List.replicate (n - (z_lay as).length) none
def z_ca (P : Nat → z_Pg) (sc : z_Sc) (n : Nat) : Nat → z_C
  | 0 => fun _ _ _ => none
  | d + 1 => fun M as h => z_rn sc (z_ca P sc n d) (P M) n 0 (z_ent as (z_ml M)) [] h
noncomputable def z_lim (f : Nat → z_O) : z_O := @dite _ (∃ n r, f n = some r) (Classical.propDecidable _) (fun h => some h.choose_spec.choose) (fun _ => none)
/-- what a call so deep answers; what a run of a method's rows, its calls so deep, comes to -/
noncomputable def z_se (P : Nat → z_Pg) (sc : z_Sc) (d : Nat) : z_C := fun M as h => z_lim (fun n => z_ca P sc n d M as h)
noncomputable def z_ev (P : Nat → z_Pg) (sc : z_Sc) (d : Nat) (L : z_Pg) : z_K := fun pc ls st h => z_lim (fun n => z_rn sc (z_ca P sc n d) L n pc ls st h)
theorem z_mono_add {f : Nat → z_O} (hm : ∀ n r, f n = some r → f (n + 1) = some r) : ∀ (k n : Nat) (r : z_R), f n = some r → f (n + k) = some r
  | 0, _, _, h => h
  | k + 1, n, r, h => hm _ _ (z_mono_add hm k n r h)
theorem z_mono_le {f : Nat → z_O} (hm : ∀ n r, f n = some r → f (n + 1) = some r) {n k : Nat} {r : z_R} (hk : n ≤ k) (h : f n = some r) : f k = some r := by
  have := z_mono_add hm (k - n) n r h
  rwa [show n + (k - n) = k by omega] at this
theorem z_lim_some {f : Nat → z_O} (hm : ∀ n r, f n = some r → f (n + 1) = some r) (r : z_R) : z_lim f = some r ↔ ∃ n, f n = some r := by
  unfold z_lim
  by_cases h : ∃ n r, f n = some r
  · rw [dif_pos h]
    have h1 := h.choose_spec.choose_spec
    constructor
    · intro e
      cases e
      exact ⟨_, h1⟩
    · rintro ⟨n, hn⟩
      have a := z_mono_le hm (Nat.le_max_left n h.choose) hn
      have b := z_mono_le hm (Nat.le_max_right n h.choose) h1
      rw [a] at b
      cases b
      rfl
  · rw [dif_neg h]
    constructor
    · intro e
      cases e
    · rintro ⟨n, hn⟩
      exact absurd ⟨n, r, hn⟩ h
/-! what an instruction does, whatever goes on behind it -/
abbrev z_A : Type := Option ((Nat × z_Ls × List z_V × z_Hp) ⊕ (z_R ⊕ (Nat × List z_V × z_Hp × Nat × Nat × z_Ls × List z_V)))
def z_do (a : z_A) (C : z_C) (K : z_K) : z_O := match a with
  | none => none
  | some (.inl s) => K s.1 s.2.1 s.2.2.1 s.2.2.2
  | some (.inr (.inl r)) => some r
  | some (.inr (.inr s)) => z_rt s.2.2.2.1 (C s.1 s.2.1 s.2.2.1) K s.2.2.2.2.1 s.2.2.2.2.2.1 s.2.2.2.2.2.2
def z_ge (h : z_Hp) (a : z_A) : Prop := match a with
  | none => True
  | some (.inl s) => h.1 ≤ s.2.2.2.1
  | some (.inr (.inl r)) => h.1 ≤ r.2.1
  | some (.inr (.inr s)) => h.1 ≤ s.2.2.1.1
def z_Fm (h : z_Hp) (f : z_C → z_K → z_O) : Prop := ∃ a : z_A, (∀ C K, f C K = z_do a C K) ∧ z_ge h a
theorem fm_none {h : z_Hp} : z_Fm h (fun _ _ => none) := ⟨none, fun _ _ => rfl, trivial⟩
theorem fm_some {h : z_Hp} {r : z_R} (hr : h.1 ≤ r.2.1) : z_Fm h (fun _ _ => some r) := ⟨some (.inr (.inl r)), fun _ _ => rfl, hr⟩
theorem fm_K {h h' : z_Hp} {pc : Nat} {ls : z_Ls} {st : List z_V} (hh : h.1 ≤ h'.1) : z_Fm h (fun _ K => K pc ls st h') := ⟨some (.inl (pc, ls, st, h')), fun _ _ => rfl, hh⟩
theorem fm_rt {h h' : z_Hp} {q x pc : Nat} {as : List z_V} {ls : z_Ls} {r : List z_V} (hh : h.1 ≤ h'.1) : z_Fm h (fun C K => z_rt q (C x as h') K pc ls r) := ⟨some (.inr (.inr (x, as, h', q, pc, ls, r))), fun _ _ => rfl, hh⟩
theorem fm_gd {h : z_Hp} {b : Bool} {f : z_C → z_K → z_O} (hf : z_Fm h f) : z_Fm h (fun C K => z_gd b (f C K)) := by
  cases b
  · exact fm_none
  · exact hf
theorem fm_sg {h : z_Hp} {b : Bool} {f : z_C → z_K → z_O} (hf : z_Fm h f) : z_Fm h (fun C K => z_sg b (f C K)) := by
  cases b
  · exact fm_none
  · exact hf
theorem fm_ite {h : z_Hp} {c : Prop} [i : Decidable c] {f g : z_C → z_K → z_O} (hf : z_Fm h f) (hg : z_Fm h g) : z_Fm h (fun C K => if c then f C K else g C K) := by
  by_cases q : c
  · simp only [if_pos q]
    exact hf
  · simp only [if_neg q]
    exact hg
theorem fm_ldi {h : z_Hp} {ls : z_Ls} {k : Nat} {f : Int32 → z_C → z_K → z_O} (hf : ∀ x, z_Fm h (f x)) : z_Fm h (fun C K => z_ldi ls k (fun x => f x C K)) := by
  unfold z_ldi
  rcases ls[k]? with _ | _ | x | x | x
  · exact fm_none
  · exact fm_none
  · exact hf x
  · exact fm_none
  · exact fm_none
theorem fm_ldr {h : z_Hp} {ls : z_Ls} {k : Nat} {f : Nat → z_C → z_K → z_O} (hf : ∀ x, z_Fm h (f x)) : z_Fm h (fun C K => z_ldr ls k (fun x => f x C K)) := by
  unfold z_ldr
  rcases ls[k]? with _ | _ | x | x | x
  · exact fm_none
  · exact fm_none
  · exact fm_none
  · exact hf x
  · exact fm_none
theorem fm_ldl {h : z_Hp} {ls : z_Ls} {k : Nat} {f : Int64 → z_C → z_K → z_O} (hf : ∀ x, z_Fm h (f x)) : z_Fm h (fun C K => z_ldl ls k (fun x => f x C K)) := by
  unfold z_ldl
  rcases ls[k]? with _ | _ | x | x | x
  · exact fm_none
  · exact fm_none
  · exact fm_none
  · exact fm_none
  · exact hf x
theorem fm_pi {h : z_Hp} {st : List z_V} {f : Int32 → List z_V → z_C → z_K → z_O} (hf : ∀ x r, z_Fm h (f x r)) : z_Fm h (fun C K => z_pi st (fun x r => f x r C K)) := by
  unfold z_pi
  rcases st with _ | ⟨x | x | x, r⟩
  · exact fm_none
  · exact hf x r
  · exact fm_none
  · exact fm_none
theorem fm_pr {h : z_Hp} {st : List z_V} {f : Nat → List z_V → z_C → z_K → z_O} (hf : ∀ x r, z_Fm h (f x r)) : z_Fm h (fun C K => z_pr st (fun x r => f x r C K)) := by
  unfold z_pr
  rcases st with _ | ⟨x | x | x, r⟩
  · exact fm_none
  · exact fm_none
  · exact hf x r
  · exact fm_none
theorem fm_pl {h : z_Hp} {st : List z_V} {f : Int64 → List z_V → z_C → z_K → z_O} (hf : ∀ x r, z_Fm h (f x r)) : z_Fm h (fun C K => z_pl st (fun x r => f x r C K)) := by
  unfold z_pl
  rcases st with _ | ⟨x | x | x, r⟩
  · exact fm_none
  · exact fm_none
  · exact fm_none
  · exact hf x r
theorem fm_rc {h h' : z_Hp} {as : List z_V} {c : Nat} {f : z_C → z_K → z_O} (hf : z_Fm h f) : z_Fm h (fun C K => z_rc h' as c (f C K)) := by
  unfold z_rc
  rcases as with _ | ⟨x | x | x, r⟩
  · exact fm_none
  · exact fm_none
  · exact fm_gd hf
  · exact fm_none
theorem fm_br {h : z_Hp} {c : Jvm.ClassFile.Cond} {x y : Int32} {f g : z_C → z_K → z_O} (hf : z_Fm h f) (hg : z_Fm h g) : z_Fm h (fun C K => z_br c x y (f C K) (g C K)) := by
  unfold z_br
  cases c
  · exact fm_ite hf hg
  · exact fm_ite hg hf
  · exact fm_ite hf hg
  · exact fm_ite hg hf
  · exact fm_ite hf hg
  · exact fm_ite hg hf
theorem fm_sw {h : z_Hp} {ls : z_Ls} {st : List z_V} {pc : Nat} {x : Int32} {d : Int} : ∀ l : List (Int × Int), z_Fm h (fun _ K => z_sw (fun p => K p ls st h) pc x d l)
  | [] => fm_K (Nat.le_refl _)
  | q :: r => by
    unfold z_sw
    exact fm_ite (fm_K (Nat.le_refl _)) (fm_sw r)
theorem z_fm0 (ins : Jvm.ClassFile.Instr) (x y pc : Nat) (ls : z_Ls) (st : List z_V) (h : z_Hp) : z_Fm h (fun _ K => z_i0 K ins x y pc ls st h) := by
  unfold z_i0
  split
  all_goals first
    | exact fm_none
    | exact fm_K (Nat.le_refl _)
    | exact fm_ldi fun _ => fm_K (Nat.le_refl _)
    | exact fm_ldi fun _ => fm_sg (fm_K (Nat.le_refl _))
    | exact fm_ldr fun _ => fm_K (Nat.le_refl _)
    | exact fm_ldl fun _ => fm_K (Nat.le_refl _)
    | exact fm_pi fun _ _ => fm_sg (fm_K (Nat.le_refl _))
    | exact fm_pr fun _ _ => fm_sg (fm_K (Nat.le_refl _))
    | exact fm_pl fun _ _ => fm_sg (fm_K (Nat.le_refl _))
    | (split <;> first | exact fm_none | exact fm_K (Nat.le_refl _) | exact fm_sg (fm_K (Nat.le_refl _)))
theorem z_fm1 (ins : Jvm.ClassFile.Instr) (pc : Nat) (ls : z_Ls) (st : List z_V) (h : z_Hp) : z_Fm h (fun _ K => z_i1 K ins pc ls st h) := by
  unfold z_i1
  split
  all_goals first
    | exact fm_none
    | exact fm_pi fun _ _ => fm_K (Nat.le_refl _)
    | exact fm_pl fun _ _ => fm_K (Nat.le_refl _)
    | exact fm_pi fun _ _ => fm_pi fun _ _ => fm_K (Nat.le_refl _)
    | exact fm_pi fun _ _ => fm_pi fun _ _ => fm_gd (fm_K (Nat.le_refl _))
    | exact fm_pl fun _ _ => fm_pl fun _ _ => fm_K (Nat.le_refl _)
    | exact fm_pl fun _ _ => fm_pl fun _ _ => fm_gd (fm_K (Nat.le_refl _))
    | exact fm_pi fun _ _ => fm_pl fun _ _ => fm_K (Nat.le_refl _)
theorem z_fm2 (ins : Jvm.ClassFile.Instr) (z pc : Nat) (ls : z_Ls) (st : List z_V) (h : z_Hp) : z_Fm h (fun _ K => z_i2 K ins z pc ls st h) := by
  unfold z_i2
  split
  all_goals first
    | exact fm_none
    | exact fm_K (Nat.le_refl _)
    | exact fm_pi fun _ _ => fm_pi fun _ _ => fm_br (fm_K (Nat.le_refl _)) (fm_K (Nat.le_refl _))
    | exact fm_pi fun _ _ => fm_br (fm_K (Nat.le_refl _)) (fm_K (Nat.le_refl _))
    | exact fm_pi fun _ _ => fm_sw _
    | (split <;> first | exact fm_none | exact fm_some (Nat.le_refl _) | (split <;> first | exact fm_gd (fm_some (Nat.le_refl _)) | exact fm_some (Nat.le_refl _)))
theorem z_fm3 (sc : z_Sc) (ins : Jvm.ClassFile.Instr) (x y z pc : Nat) (ls : z_Ls) (st : List z_V) (h : z_Hp) : z_Fm h (fun _ K => z_i3 sc K ins x y z pc ls st h) := by
  have hn : h.1 ≤ (z_nw h).1 := Nat.le_succ _
  have hm : ∀ n, h.1 ≤ (z_nwm h n).1 := fun n => by show h.1 ≤ h.1 + 1 + n; omega
  unfold z_i3
  split
  all_goals first
    | exact fm_none
    | exact fm_gd (fm_K hn)
    | exact fm_pr fun _ _ => fm_gd (fm_K (Nat.le_refl _))
    | exact fm_pi fun _ _ => fm_gd (fm_K hn)
    | exact fm_pi fun _ _ => fm_pr fun _ _ => fm_gd (fm_K (Nat.le_refl _))
    | exact fm_pi fun _ _ => fm_pi fun _ _ => fm_pr fun _ _ => fm_gd (fm_K (Nat.le_refl _))
    | exact fm_pl fun _ _ => fm_pi fun _ _ => fm_pr fun _ _ => fm_gd (fm_K (Nat.le_refl _))
    | exact fm_pr fun _ _ => fm_pi fun _ _ => fm_pr fun _ _ => fm_gd (fm_K (Nat.le_refl _))
    | exact fm_pi fun _ _ => fm_pi fun _ _ => fm_gd (fm_K (hm _))
    | (split <;> first
        | exact fm_pi fun _ _ => fm_pr fun _ _ => fm_gd (fm_K (Nat.le_refl _))
        | exact fm_pr fun _ _ => fm_pr fun _ _ => fm_gd (fm_K (Nat.le_refl _))
        | exact fm_pl fun _ _ => fm_pr fun _ _ => fm_gd (fm_K (Nat.le_refl _))
        | exact fm_pi fun _ _ => fm_pi fun _ _ => fm_pr fun _ _ => fm_gd (fm_K (Nat.le_refl _))
        | exact fm_pr fun _ _ => fm_gd (fm_K (Nat.le_refl _)))
theorem z_fm4 (x y z pc : Nat) (ls : z_Ls) (st : List z_V) (h : z_Hp) : z_Fm h (fun C K => z_i4 C K x y z pc ls st h) := by
  unfold z_i4
  split
  · exact fm_sg (fm_rt (Nat.le_refl _))
  · exact fm_pi fun _ _ => fm_pi fun _ _ => fm_sg (fm_K (Nat.le_refl _))
  · exact fm_pi fun _ _ => fm_pi fun _ _ => fm_sg (fm_K (Nat.le_refl _))
  · exact fm_pi fun _ _ => fm_pi fun _ _ => fm_pr fun _ _ => fm_pi fun _ _ => fm_pr fun _ _ => fm_sg (fm_gd (fm_K (Nat.le_refl _)))
  · exact fm_pr fun _ _ => fm_sg (fm_gd (fm_K (Nat.le_refl _)))
  · exact fm_sg (fm_rc (fm_rt (Nat.le_refl _)))
theorem z_fm (sc : z_Sc) (en : Option z_En) (pc : Nat) (ls : z_Ls) (st : List z_V) (h : z_Hp) : z_Fm h (fun C K => z_st sc C K en pc ls st h) := by
  unfold z_st
  rcases en with _ | ⟨g, ins, x, y, z, t, i⟩
  · exact fm_none
  · dsimp only
    split
    · exact z_fm0 ins x y pc ls st h
    · exact z_fm1 ins pc ls st h
    · exact z_fm2 ins z pc ls st h
    · exact z_fm3 sc ins x y z pc ls st h
    · exact z_fm4 x y z pc ls st h
end
section
/-! the runs grow with their steps; the limit's equation -/
def z_leC (C D : z_C) : Prop := ∀ M as h r, C M as h = some r → D M as h = some r
def z_leK (C D : z_K) : Prop := ∀ pc ls st h r, C pc ls st h = some r → D pc ls st h = some r
theorem z_rt_le {q pc : Nat} {o o' : z_O} {K K' : z_K} {ls : z_Ls} {st : List z_V} (ho : ∀ r, o = some r → o' = some r) (hK : z_leK K K') {r : z_R} (h : z_rt q o K pc ls st = some r) : z_rt q o' K' pc ls st = some r := by
  unfold z_rt z_ci z_cl z_cv at h ⊢
  rcases o with _ | ⟨_ | x | x | x, h1⟩
  · split at h <;> cases h
  · rw [ho _ rfl]
    split at h
    · cases h
    · cases h
    · exact hK _ _ _ _ _ h
  · rw [ho _ rfl]
    split at h
    · exact hK _ _ _ _ _ h
    · cases h
    · cases h
  · rw [ho _ rfl]
    split at h <;> cases h
  · rw [ho _ rfl]
    split at h
    · cases h
    · exact hK _ _ _ _ _ h
    · cases h
theorem z_do_le {a : z_A} {C C' : z_C} {K K' : z_K} (hC : z_leC C C') (hK : z_leK K K') {r : z_R} (h : z_do a C K = some r) : z_do a C' K' = some r := by
  rcases a with _ | ⟨s | s | s⟩
  · exact h
  · exact hK _ _ _ _ _ h
  · exact h
  · exact z_rt_le (fun r hr => hC _ _ _ _ hr) hK h
theorem z_st_le {sc : z_Sc} {en : Option z_En} {C C' : z_C} {K K' : z_K} (hC : z_leC C C') (hK : z_leK K K') {pc : Nat} {ls : z_Ls} {st : List z_V} {h : z_Hp} {r : z_R} (hr : z_st sc C K en pc ls st h = some r) : z_st sc C' K' en pc ls st h = some r := by
  obtain ⟨a, ha, -⟩ := z_fm sc en pc ls st h
  have h1 := ha C K
  have h2 := ha C' K'
  dsimp only at h1 h2
  rw [h1] at hr
  rw [h2]
  exact z_do_le hC hK hr
theorem z_rn_C {sc : z_Sc} {C C' : z_C} (hC : z_leC C C') (L : z_Pg) : ∀ n, z_leK (z_rn sc C L n) (z_rn sc C' L n)
  | 0 => fun _ _ _ _ _ h => h
  | n + 1 => fun _ _ _ _ _ h => z_st_le hC (z_rn_C hC L n) h
theorem z_rn_s {sc : z_Sc} {C : z_C} (L : z_Pg) : ∀ n, z_leK (z_rn sc C L n) (z_rn sc C L (n + 1))
  | 0 => fun _ _ _ _ _ h => by cases h
  | n + 1 => fun _ _ _ _ _ h => z_st_le (fun _ _ _ _ h => h) (z_rn_s L n) h
theorem z_ca_s {P : Nat → z_Pg} {sc : z_Sc} (n : Nat) : ∀ d, z_leC (z_ca P sc n d) (z_ca P sc (n + 1) d)
  | 0 => fun _ _ _ _ h => h
  | d + 1 => fun _ _ _ _ h => z_rn_C (z_ca_s n d) _ _ _ _ _ _ _ (z_rn_s _ n _ _ _ _ _ h)
theorem z_run_s {P : Nat → z_Pg} {sc : z_Sc} {d : Nat} {L : z_Pg} (n : Nat) : z_leK (z_rn sc (z_ca P sc n d) L n) (z_rn sc (z_ca P sc (n + 1) d) L (n + 1)) := fun _ _ _ _ _ h => z_rn_C (z_ca_s n d) L _ _ _ _ _ _ (z_rn_s L n _ _ _ _ _ h)
theorem z_se_iff {P : Nat → z_Pg} {sc : z_Sc} {d M : Nat} {as : List z_V} {h : z_Hp} {r : z_R} : z_se P sc d M as h = some r ↔ ∃ n, z_ca P sc n d M as h = some r := z_lim_some (fun n r hr => z_ca_s n d _ _ _ _ hr) r
theorem z_ev_iff {P : Nat → z_Pg} {sc : z_Sc} {d : Nat} {L : z_Pg} {pc : Nat} {ls : z_Ls} {st : List z_V} {h : z_Hp} {r : z_R} : z_ev P sc d L pc ls st h = some r ↔ ∃ n, z_rn sc (z_ca P sc n d) L n pc ls st h = some r := z_lim_some (fun n r hr => z_run_s n _ _ _ _ _ hr) r
theorem z_o_ext {a b : z_O} (h : ∀ r, a = some r ↔ b = some r) : a = b := by
  rcases a with _ | a
  · rcases b with _ | b
    · rfl
    · exact ((h b).mpr rfl)
  · exact ((h a).mp rfl).symm
theorem z_ca_le {P : Nat → z_Pg} {sc : z_Sc} {n k d : Nat} (hk : n ≤ k) : z_leC (z_ca P sc n d) (z_ca P sc k d) := fun M as h r hr => z_mono_le (f := fun n => z_ca P sc n d M as h) (fun n r hr => z_ca_s n d _ _ _ _ hr) hk hr
theorem z_rn_le {P : Nat → z_Pg} {sc : z_Sc} {L : z_Pg} {n k d : Nat} (hk : n ≤ k) : z_leK (z_rn sc (z_ca P sc n d) L n) (z_rn sc (z_ca P sc k d) L k) := fun pc ls st h r hr => z_mono_le (f := fun n => z_rn sc (z_ca P sc n d) L n pc ls st h) (fun n r hr => z_run_s n _ _ _ _ _ hr) hk hr
/-- what is reached in the limit of the calls and of what goes on is reached at some number of steps -/
theorem z_do_lim {P : Nat → z_Pg} {sc : z_Sc} {d : Nat} {L : z_Pg} {a : z_A} {r : z_R} (h : z_do a (z_se P sc d) (z_ev P sc d L) = some r) : ∃ n, z_do a (z_ca P sc n d) (z_rn sc (z_ca P sc n d) L n) = some r := by
  rcases a with _ | ⟨s | s | s⟩
  · cases h
  · exact z_ev_iff.mp h
  · exact ⟨0, h⟩
  · obtain ⟨x, as, h0, q, pc, ls, st⟩ := s
    show ∃ n, z_rt q (z_ca P sc n d x as h0) (z_rn sc (z_ca P sc n d) L n) pc ls st = some r
    have h' : z_rt q (z_se P sc d x as h0) (z_ev P sc d L) pc ls st = some r := h
    rcases ho : z_se P sc d x as h0 with _ | ⟨v, h1⟩
    · rw [ho] at h'
      unfold z_rt z_ci z_cl z_cv at h'
      split at h' <;> cases h'
    · obtain ⟨n1, hn1⟩ := z_se_iff.mp ho
      rw [ho] at h'
      have key : ∃ n2, z_rt q (some (v, h1)) (z_rn sc (z_ca P sc n2 d) L n2) pc ls st = some r := by
        unfold z_rt z_ci z_cl z_cv at h' ⊢
        split at h' <;> split at h' <;> first | exact z_ev_iff.mp h' | cases h' | skip
        all_goals (rename_i he; cases he; exact z_ev_iff.mp h')
      obtain ⟨n2, hn2⟩ := key
      refine ⟨max n1 n2, ?_⟩
      refine z_rt_le (o := some (v, h1)) (fun r hr => ?_) (z_rn_le (Nat.le_max_right n1 n2)) hn2
      rw [← hr]
      exact z_ca_le (Nat.le_max_left n1 n2) _ _ _ _ hn1
/-- THE EQUATION -/
theorem z_ev_eq (P : Nat → z_Pg) (sc : z_Sc) (d : Nat) (L : z_Pg) (pc : Nat) (ls : z_Ls) (st : List z_V) (h : z_Hp) : z_ev P sc d L pc ls st h = z_st sc (z_se P sc d) (z_ev P sc d L) (z_gt L pc) pc ls st h := by
  obtain ⟨a, ha, -⟩ := z_fm sc (z_gt L pc) pc ls st h
  have e : ∀ C K, z_st sc C K (z_gt L pc) pc ls st h = z_do a C K := ha
  refine z_o_ext fun r => ⟨fun hr => ?_, fun hr => ?_⟩
  · obtain ⟨n, hn⟩ := z_ev_iff.mp hr
    cases n with
    | zero => cases hn
    | succ n =>
      have h1 : z_st sc (z_ca P sc (n + 1) d) (z_rn sc (z_ca P sc (n + 1) d) L n) (z_gt L pc) pc ls st h = some r := hn
      refine z_st_le (fun _ _ _ _ q => z_se_iff.mpr ⟨_, q⟩) (fun pc ls st h r q => z_ev_iff.mpr ⟨n + 1, z_rn_s L n _ _ _ _ _ q⟩) h1
  · rw [e] at hr
    obtain ⟨n, hn⟩ := z_do_lim hr
    refine z_ev_iff.mpr ⟨n + 1, ?_⟩
    show z_st sc (z_ca P sc (n + 1) d) (z_rn sc (z_ca P sc (n + 1) d) L n) (z_gt L pc) pc ls st h = some r
    rw [e]
    exact z_do_le (z_ca_s n d) (z_rn_C (z_ca_s n d) L n) hn
theorem z_se_eq (P : Nat → z_Pg) (sc : z_Sc) (d M : Nat) (as : List z_V) (h : z_Hp) : z_se P sc (d + 1) M as h = z_ev P sc d (P M) 0 (z_ent as (z_ml M)) [] h := rfl
/-- so many steps unfolded, but not beyond the places that are named -/
def z_has (l : List Nat) (k : Nat) : Bool := match l with
  | [] => false
  | x :: r => match Nat.beq x k with
    | true => true
    | false => z_has r k
def z_un (sc : z_Sc) (C : z_C) (E : z_K) (L : z_Pg) (stops : List Nat) : Nat → z_K
  | 0 => E
  | k + 1 => fun pc ls st h => z_st sc C (fun pc' ls' st' h' => match z_has stops pc' with
    | true => E pc' ls' st' h'
    | false => z_un sc C E L stops k pc' ls' st' h') (z_gt L pc) pc ls st h
theorem z_un_eq (P : Nat → z_Pg) (sc : z_Sc) (d : Nat) (L : z_Pg) (stops : List Nat) : ∀ (k pc : Nat) (ls : z_Ls) (st : List z_V) (h : z_Hp), z_ev P sc d L pc ls st h = z_un sc (z_se P sc d) (z_ev P sc d L) L stops k pc ls st h
  | 0, _, _, _, _ => rfl
  | k + 1, pc, ls, st, h => by
    rw [z_ev_eq]
    unfold z_un
    congr 1
    funext pc' ls' st' h'
    split
    · rfl
    · exact z_un_eq P sc d L stops k pc' ls' st' h'
/-- the cells' number never falls -/
theorem z_do_ge {h0 : z_Hp} {a : z_A} (hg : z_ge h0 a) {C : z_C} {K : z_K} (hC : ∀ M as h r, C M as h = some r → h.1 ≤ r.2.1) (hK : ∀ pc ls st h r, K pc ls st h = some r → h.1 ≤ r.2.1) {r : z_R} (h : z_do a C K = some r) : h0.1 ≤ r.2.1 := by
  rcases a with _ | ⟨s | s | s⟩
  · cases h
  · exact Nat.le_trans hg (hK _ _ _ _ _ h)
  · cases h
    exact hg
  · obtain ⟨x, as, h1, q, pc, ls, st⟩ := s
    have h' : z_rt q (C x as h1) K pc ls st = some r := h
    have hg' : h0.1 ≤ h1.1 := hg
    rcases ho : C x as h1 with _ | ⟨v, h2⟩
    · rw [ho] at h'
      unfold z_rt z_ci z_cl z_cv at h'
      split at h' <;> cases h'
    · have h3 : h1.1 ≤ h2.1 := hC _ _ _ _ ho
      rw [ho] at h'
      have h4 : h2.1 ≤ r.2.1 := by
        unfold z_rt z_ci z_cl z_cv at h'
        split at h' <;> split at h' <;> first | exact hK _ _ _ _ _ h' | cases h' | skip
        all_goals (rename_i he; cases he; exact hK _ _ _ _ _ h')
      omega
theorem z_rn_ge {sc : z_Sc} {C : z_C} {L : z_Pg} (hC : ∀ M as h r, C M as h = some r → h.1 ≤ r.2.1) : ∀ n pc ls st h r, z_rn sc C L n pc ls st h = some r → h.1 ≤ r.2.1
  | 0, _, _, _, _, _, q => by cases q
  | n + 1, pc, ls, st, h, r, q => by
    obtain ⟨a, ha, hg⟩ := z_fm sc (z_gt L pc) pc ls st h
    have e : ∀ C K, z_st sc C K (z_gt L pc) pc ls st h = z_do a C K := ha
    have q' : z_st sc C (z_rn sc C L n) (z_gt L pc) pc ls st h = some r := q
    rw [e] at q'
    exact z_do_ge hg hC (z_rn_ge hC n) q'
theorem z_ca_ge {P : Nat → z_Pg} {sc : z_Sc} {n : Nat} : ∀ d M as h r, z_ca P sc n d M as h = some r → h.1 ≤ r.2.1
  | 0, _, _, _, _, q => by cases q
  | d + 1, _, _, _, _, q => z_rn_ge (z_ca_ge d) _ _ _ _ _ _ q
end
section
/-! THE CHECKS: the program's rows are what the code decodes to, and their words stand in the tables (positions by wip/whole/gen/chk.py) -/
def z_tb (t : Nat) : List Jvm.Cond := match t with
  | 0 => k2_sels lw_privs
  | 1 => tables_1_1
  | 2 => tables_1_2
  | 3 => tables_1_3
  | 4 => tables_1_4
  | 5 => tables_1_5
  | 6 => tables_1_6
  | 7 => tables_1_7
  | _ => []
def z_wp (q : Nat × Nat) : Option Jvm.Cond := (z_tb q.1)[q.2]?
def z_W : List Jvm.Cond := lw_tbl.filter goodWord
theorem z_wp_in {q : Nat × Nat} {w : Jvm.Cond} (h : z_wp q = some w) : w ∈ lw_tbl := by
  obtain ⟨t, i⟩ := q
  have hm : w ∈ z_tb t := List.mem_of_getElem? h
  unfold lw_tbl tables_1
  unfold z_tb at hm
  split at hm
  · exact List.mem_append_left _ hm
  · exact List.mem_append_right _ (List.mem_append_left _ hm)
  · exact List.mem_append_right _ (List.mem_append_right _ (List.mem_append_left _ hm))
  · exact List.mem_append_right _ (List.mem_append_right _ (List.mem_append_right _ (List.mem_append_left _ hm)))
  · exact List.mem_append_right _ (List.mem_append_right _ (List.mem_append_right _ (List.mem_append_right _ (List.mem_append_left _ hm))))
  · exact List.mem_append_right _ (List.mem_append_right _ (List.mem_append_right _ (List.mem_append_right _ (List.mem_append_right _ (List.mem_append_left _ hm)))))
  · exact List.mem_append_right _ (List.mem_append_right _ (List.mem_append_right _ (List.mem_append_right _ (List.mem_append_right _ (List.mem_append_right _ (List.mem_append_left _ hm))))))
  · exact List.mem_append_right _ (List.mem_append_right _ (List.mem_append_right _ (List.mem_append_right _ (List.mem_append_right _ (List.mem_append_right _ (List.mem_append_right _ hm))))))
  · cases hm
theorem z_wp_W {q : Nat × Nat} {w : Jvm.Cond} (h : z_wp q = some w) (hg : goodWord w = true) : w ∈ z_W := List.mem_filter.mpr ⟨z_wp_in h, hg⟩
theorem z_in_ps {ws : List Jvm.Cond} (ps : List (Nat × Nat)) (h : ws.map some = ps.map z_wp) (hg : ws.all goodWord = true) : ∀ w ∈ ws, w ∈ z_W := fun w hw => by
  have h1 : some w ∈ ps.map z_wp := by rw [← h]; exact List.mem_map_of_mem hw
  obtain ⟨q, -, hq⟩ := List.mem_map.mp h1
  exact z_wp_W hq (List.all_eq_true.mp hg w hw)
def z_cC (c : Nat) : String := match c with
  | 0 => RX0
  | 1 => RX1
  | 2 => RX2
  | 3 => RX3
  | 4 => RX4
  | 5 => RX5
  | 6 => RX6
  | 7 => RX7
  | 8 => RX8
  | _ => ""
def z_cT (c : Nat) : u_T := match c with
  | 0 => TX0
  | 1 => TX1
  | 2 => TX2
  | 3 => TX3
  | 4 => TX4
  | 5 => TX5
  | 6 => TX6
  | 7 => TX7
  | 8 => TX8
  | _ => TX0
def z_cN (c : Nat) : Nat := match c with
  | 0 => 19
  | 1 => 7
  | 2 => 1
  | 3 => 7
  | 4 => 2
  | 5 => 17
  | 6 => 2
  | 7 => 14
  | 8 => 48
  | _ => 0
def z_cY (c : Nat) : (Nat → FieldType) := match c with
  | 0 => tyX0
  | 1 => tyX1
  | 2 => tyX2
  | 3 => tyX3
  | 4 => tyX4
  | 5 => tyX5
  | 6 => tyX6
  | 7 => tyX7
  | 8 => tyX8
  | _ => tyX0
theorem z_lays0 : ∀ w ∈ u_ws RX0 TX0 19, w ∈ z_W := z_in_ps [(2, 16), (2, 18), (2, 20), (2, 22), (2, 24), (2, 26), (2, 28), (2, 30), (2, 32), (2, 34), (2, 36), (2, 38), (2, 40), (2, 42), (2, 44), (2, 46), (2, 48), (2, 50), (2, 52)] (by decide +kernel) (by decide +kernel)
theorem z_lays1 : ∀ w ∈ u_ws RX1 TX1 7, w ∈ z_W := z_in_ps [(1, 51), (1, 53), (1, 55), (1, 57), (1, 59), (1, 61), (1, 63)] (by decide +kernel) (by decide +kernel)
theorem z_lays2 : ∀ w ∈ u_ws RX2 TX2 1, w ∈ z_W := z_in_ps [(1, 75)] (by decide +kernel) (by decide +kernel)
theorem z_lays3 : ∀ w ∈ u_ws RX3 TX3 7, w ∈ z_W := z_in_ps [(1, 109), (1, 111), (1, 113), (1, 115), (1, 117), (1, 119), (1, 121)] (by decide +kernel) (by decide +kernel)
theorem z_lays4 : ∀ w ∈ u_ws RX4 TX4 2, w ∈ z_W := z_in_ps [(1, 91), (1, 93)] (by decide +kernel) (by decide +kernel)
theorem z_lays5 : ∀ w ∈ u_ws RX5 TX5 17, w ∈ z_W := z_in_ps [(1, 150), (1, 152), (1, 154), (1, 156), (1, 158), (1, 160), (1, 162), (1, 164), (1, 166), (1, 168), (1, 170), (1, 172), (1, 174), (1, 176), (1, 178), (1, 180), (1, 182)] (by decide +kernel) (by decide +kernel)
theorem z_lays6 : ∀ w ∈ u_ws RX6 TX6 2, w ∈ z_W := z_in_ps [(1, 32), (1, 34)] (by decide +kernel) (by decide +kernel)
theorem z_lays7 : ∀ w ∈ u_ws RX7 TX7 14, w ∈ z_W := z_in_ps [(2, 71), (2, 73), (2, 75), (2, 77), (2, 79), (2, 81), (2, 83), (2, 85), (2, 87), (2, 89), (2, 91), (2, 93), (2, 95), (2, 97)] (by decide +kernel) (by decide +kernel)
theorem z_lays8 : ∀ w ∈ u_ws RX8 TX8 48, w ∈ z_W := z_in_ps [(4, 213), (4, 215), (4, 217), (4, 219), (4, 221), (4, 223), (4, 225), (4, 227), (4, 229), (4, 231), (4, 233), (4, 235), (4, 237), (4, 239), (5, 1), (5, 3), (5, 5), (5, 7), (5, 9), (5, 11), (5, 13), (5, 15), (5, 17), (5, 19), (5, 21), (5, 23), (5, 25), (5, 27), (5, 29), (5, 31), (5, 33), (5, 35), (5, 37), (5, 39), (5, 41), (5, 43), (5, 45), (5, 47), (5, 49), (5, 51), (5, 53), (5, 55), (5, 57), (5, 59), (5, 61), (5, 63), (5, 65), (5, 67)] (by decide +kernel) (by decide +kernel)
theorem z_cOK (c : Nat) (hc : c < 9) : vwCl[c]? = some (z_cC c, z_cT c, z_cN c) ∧ (∀ w ∈ u_ws (z_cC c) (z_cT c) (z_cN c), w ∈ z_W) ∧ (∀ k, k < z_cN c → parseFieldDescriptor (z_cT c k).2.2.1 = some (z_cY c k)) ∧ (∀ a, a < z_cN c → ∀ b, b < z_cN c → a ≠ b → (z_cT c a).2.1 ≠ (z_cT c b).2.1) := by
  match c, hc with
  | 0, _ => exact ⟨rfl, z_lays0, tyX0_ok, nmX0⟩
  | 1, _ => exact ⟨rfl, z_lays1, tyX1_ok, nmX1⟩
  | 2, _ => exact ⟨rfl, z_lays2, tyX2_ok, nmX2⟩
  | 3, _ => exact ⟨rfl, z_lays3, tyX3_ok, nmX3⟩
  | 4, _ => exact ⟨rfl, z_lays4, tyX4_ok, nmX4⟩
  | 5, _ => exact ⟨rfl, z_lays5, tyX5_ok, nmX5⟩
  | 6, _ => exact ⟨rfl, z_lays6, tyX6_ok, nmX6⟩
  | 7, _ => exact ⟨rfl, z_lays7, tyX7_ok, nmX7⟩
  | 8, _ => exact ⟨rfl, z_lays8, tyX8_ok, nmX8⟩
def z_yM (x : Nat) : MethodName := match z_mY[x]? with
  | some q => q.1
  | none => yL_law
def z_bM (x : Nat) : ByteArray := match z_mY[x]? with
  | some q => q.2.1
  | none => cL_law
def z_rM (x : Nat) : Option FieldType := match z_mY[x]? with
  | some q => q.2.2
  | none => none
def z_kM (x : Nat) : Nat := z_mk.getD x 9
def z_lkM (x : Nat) : (Nat × Nat) × (Nat × Nat) × (Nat × Nat) × (Nat × Nat) := z_mP.getD x ((99, 0), (99, 0), (99, 0), (99, 0))
/-- the host of the nest -/
def z_host : String := "PaperRound"
/-- the word that a row of the program needs -/
def z_wd (own : String) (ins : Jvm.ClassFile.Instr) (x y z : Nat) : Option Jvm.Cond := match ins with
  | .getfield n => some (.fieldLink own n (z_cC x) (z_cT x y).2.1 (z_cT x y).2.2.1)
  | .putfield n => some (.fieldLink own n (z_cC x) (z_cT x y).2.1 (z_cT x y).2.2.1)
  | .new n => some (.classLink own n (z_cC x))
  | .anewarray n => some (.classLink own n RX4)
  | .multianewarray n _ => some (.classLink own n "[[I")
  | .ldc n => some (.constant own n (Int32.ofInt (z_sn x y)))
  | .ldc2_w n => some (.constantLong own n (Int64.ofInt (z_sn x y)))
  | .invokevirtual n => some (.methodLink own n (z_yM x))
  | .invokestatic n => match z with
    | 10 => some (.methodLink own n Lib.Math.max.name)
    | 11 => some (.methodLink own n Lib.Math.min.name)
    | 12 => some (.methodLink own n arraycopyName)
    | _ => some (.methodLink own n (z_yM x))
  | .invokespecial n => match z with
    | 13 => some (.methodLink own n objectInit)
    | 3 => some (.methodLinkNest own n (z_yM x) z_host)
    | _ => some (.methodLink own n (z_yM x))
  | _ => none
def z_tgo (pc : Nat) (o : Int) : Bool := decide (0 ≤ (pc : Int) + o)
def z_i32 (v : Int) : Bool := decide (-2147483648 ≤ v) && decide (v < 2147483648)
/-- what a row's own numbers must be -/
def z_sok (M : Nat) (pc len : Nat) (g : Nat) (ins : Jvm.ClassFile.Instr) (x y z : Nat) : Bool := match ins with
  | .iload _ => Nat.beq len 2 && Nat.beq g 0
  | .iload_n _ => Nat.beq len 1 && Nat.beq g 0
  | .aload_n _ => Nat.beq len 1 && Nat.beq g 0
  | .lload_n _ => Nat.beq len 1 && Nat.beq g 0
  | .istore _ => Nat.beq len 2 && Nat.beq g 0
  | .istore_n _ => Nat.beq len 1 && Nat.beq g 0
  | .astore_n _ => Nat.beq len 1 && Nat.beq g 0
  | .lstore_n _ => Nat.beq len 1 && Nat.beq g 0
  | .iinc _ _ => Nat.beq len 3 && Nat.beq g 0
  | .iconst _ => Nat.beq len 1 && Nat.beq g 0
  | .bipush _ => Nat.beq len 2 && Nat.beq g 0
  | .sipush _ => Nat.beq len 3 && Nat.beq g 0
  | .lconst _ => Nat.beq len 1 && Nat.beq g 0
  | .ldc _ => Nat.beq len 2 && Nat.beq g 0
  | .ldc2_w _ => Nat.beq len 3 && Nat.beq g 0
  | .pop => Nat.beq len 1 && Nat.beq g 0
  | .dup => Nat.beq len 1 && Nat.beq g 0
  | .dup2 => Nat.beq len 1 && Nat.beq g 0
  | .iadd => Nat.beq len 1 && Nat.beq g 1
  | .isub => Nat.beq len 1 && Nat.beq g 1
  | .imul => Nat.beq len 1 && Nat.beq g 1
  | .iand => Nat.beq len 1 && Nat.beq g 1
  | .ior => Nat.beq len 1 && Nat.beq g 1
  | .ixor => Nat.beq len 1 && Nat.beq g 1
  | .ishl => Nat.beq len 1 && Nat.beq g 1
  | .ishr => Nat.beq len 1 && Nat.beq g 1
  | .idiv => Nat.beq len 1 && Nat.beq g 1
  | .irem => Nat.beq len 1 && Nat.beq g 1
  | .ineg => Nat.beq len 1 && Nat.beq g 1
  | .i2l => Nat.beq len 1 && Nat.beq g 1
  | .i2b => Nat.beq len 1 && Nat.beq g 1
  | .l2i => Nat.beq len 1 && Nat.beq g 1
  | .ladd => Nat.beq len 1 && Nat.beq g 1
  | .lmul => Nat.beq len 1 && Nat.beq g 1
  | .land => Nat.beq len 1 && Nat.beq g 1
  | .lor => Nat.beq len 1 && Nat.beq g 1
  | .ldiv => Nat.beq len 1 && Nat.beq g 1
  | .lshl => Nat.beq len 1 && Nat.beq g 1
  | .lshr => Nat.beq len 1 && Nat.beq g 1
  | .lcmp => Nat.beq len 1 && Nat.beq g 1
  | .if_icmp _ o => Nat.beq len 3 && Nat.beq g 2 && z_tgo pc o
  | .ifCond _ o => Nat.beq len 3 && Nat.beq g 2 && z_tgo pc o
  | .goto o => Nat.beq len 3 && Nat.beq g 2 && z_tgo pc o
  | .tableswitch d lo hi os => Nat.beq g 2 && z_tgo pc d && os.toList.all (z_tgo pc) && z_i32 lo && z_i32 hi && decide (hi = lo + (os.size : Int) - 1)
  | .lookupswitch d ps => Nat.beq g 2 && z_tgo pc d && ps.toList.all (fun q => z_tgo pc q.2 && z_i32 q.1) && (ps.toList.zip (ps.toList.drop 1)).all (fun (a, next) => a.1 < next.1)
  | .ireturn => Nat.beq len 1 && Nat.beq g 2 && (match z with
    | 3 => decide (z_rM M = some .boolean)
    | 0 => decide (z_rM M = some .int)
    | _ => false)
  | .lreturn => Nat.beq len 1 && Nat.beq g 2 && decide (z_rM M = some .long)
  | .return_ => Nat.beq len 1 && Nat.beq g 2 && decide (z_rM M = none)
  | .getfield _ => Nat.beq len 3 && Nat.beq g 3 && Nat.blt x 9 && Nat.blt y (z_cN x) && Nat.beq z (z_fk x y)
  | .putfield _ => Nat.beq len 3 && Nat.beq g 3 && Nat.blt x 9 && Nat.blt y (z_cN x) && Nat.beq z (z_fk x y) && (!(z_cT x y).2.2.2 || (decide ((z_yM M).name = "<init>") && decide ((z_cT x y).1 = (z_yM M).cls)))
  | .iaload => Nat.beq len 1 && Nat.beq g 3 && (match x with
    | 1 => Nat.beq M 250
    | _ => true)
  | .baload => Nat.beq len 1 && Nat.beq g 3 && (Nat.beq x 12 || Nat.beq x 13)
  | .laload => Nat.beq len 1 && Nat.beq g 3
  | .aaload => Nat.beq len 1 && Nat.beq g 3 && (Nat.beq x 14 || Nat.beq x 15)
  | .iastore => Nat.beq len 1 && Nat.beq g 3
  | .bastore => Nat.beq len 1 && Nat.beq g 3 && (Nat.beq x 12 || Nat.beq x 13)
  | .lastore => Nat.beq len 1 && Nat.beq g 3
  | .aastore => Nat.beq len 1 && Nat.beq g 3
  | .arraylength => Nat.beq len 1 && Nat.beq g 3 && (match x with
    | 1 => Nat.beq M 250
    | 10 => true
    | _ => false)
  | .new _ => Nat.beq len 3 && Nat.beq g 3 && Nat.blt x 9
  | .newarray a => Nat.beq len 2 && Nat.beq g 3 && (match a with
    | .int => Nat.beq x 10
    | .long => Nat.beq x 11
    | .byte => Nat.beq x 12
    | .boolean => Nat.beq x 13
    | _ => false)
  | .anewarray _ => Nat.beq len 3 && Nat.beq g 3
  | .multianewarray _ q => Nat.beq len 4 && Nat.beq g 3 && Nat.beq q 2
  | .invokevirtual _ => Nat.beq len 3 && Nat.beq g 4 && Nat.beq z 0 && Nat.beq (z_kM x) 0 && Nat.beq y (z_mn x) && Nat.blt x 250
  | .invokestatic _ => Nat.beq len 3 && Nat.beq g 4 && (match z with
    | 10 => true
    | 11 => true
    | 12 => true
    | 1 => Nat.beq (z_kM x) 1 && Nat.beq y (z_mn x) && Nat.blt x 250
    | _ => false)
  | .invokespecial _ => Nat.beq len 3 && Nat.beq g 4 && (match z with
    | 13 => true
    | 2 => Nat.beq (z_kM x) 2 && Nat.beq y (z_mn x) && Nat.blt x 250
    | 3 => Nat.beq (z_kM x) 2 && Nat.beq y (z_mn x) && Nat.blt x 250
    | _ => false)
  | _ => false
/-- a row of the program holds -/
def z_eck (M : Nat) (q : Nat × Nat × z_En) : Bool := match q with
  | (pc, len, g, ins, x, y, z, t, i) => decide (decode (z_bM M) pc = .ok (ins, len)) && (z_sok M pc len g ins x y z && decide (z_wp (t, i) = z_wd (z_yM M).cls ins x y z))
/-- a method's words hold -/
def z_mck (x : Nat) : Bool :=
  decide (z_wp (z_lkM x).1 = some (.code (z_yM x) (z_bM x) (z_ml x) (z_rM x))) && (decide (z_wp (z_lkM x).2.1 = some (match z_kM x with
    | 1 => .static (z_yM x)
    | _ => .instanceMethod (z_yM x))) && ((match z_kM x with
    | 0 => decide (z_wp (z_lkM x).2.2.1 = some (.selects (z_yM x).cls (z_yM x) (z_yM x)))
    | 1 => true
    | 2 => decide ((z_yM x).name = "<init>") && decide (z_rM x = none)
    | _ => false) && (decide (z_wp (z_lkM x).2.2.2 = some (.initialized (z_yM x).cls)) && (decide ((parseMethodDescriptor (z_yM x).desc).map (fun d => d.parameters.length) = some (match z_kM x with
    | 1 => z_mn x
    | _ => z_mn x - 1)) && (decide ((z_yM x).cls ≠ "java/lang/invoke/MethodHandle") && (decide ((z_yM x).cls ≠ "java/lang/invoke/VarHandle") && (plainName (z_yM x).cls && (Nat.ble (z_ml x) 45 && ((match z_mr x with
    | 0 => decide (z_rM x = some .int) || decide (z_rM x = some .boolean)
    | 1 => decide (z_rM x = some .long)
    | 2 => decide (z_rM x = none)
    | _ => false) && (match z_kM x with
    | 1 => true
    | _ => decide (z_cC (z_mc x) = (z_yM x).cls) && Nat.blt (z_mc x) 9 && Nat.blt 0 (z_mn x)))))))))))
end
