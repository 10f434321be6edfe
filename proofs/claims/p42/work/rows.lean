section
-- ===== PART A: goes FIRST, ahead of the names: the tables' words, and 'selects' of the private methods out of them =====
/-- a private method of a class that the tables say can be made, by its rows of tables_1 -/
def lw_okq (q : MethodName × Nat) : Prop := (q.1.cls ≠ "java/lang/invoke/MethodHandle" ∧ q.1.cls ≠ "java/lang/invoke/VarHandle") ∧ Cond.instantiable q.1.cls q.2 ∈ tables_1 ∧ Cond.privateMethod q.1 ∈ tables_1 ∧ Cond.instanceMethod q.1 ∈ tables_1
theorem lw_p0 : lw_okq (⟨"PaperRound$Plan", "firstWrongOf", "(LPaperRound$House;I)I"⟩, 1) := ⟨⟨by decide +kernel, by decide +kernel⟩, List.mem_of_getElem? (i := 66) (by decide +kernel), List.mem_of_getElem? (i := 361) (by decide +kernel), List.mem_of_getElem? (i := 362) (by decide +kernel)⟩
theorem lw_p1 : lw_okq (⟨"PaperRound$Plan", "isCrowded", "(LPaperRound$House;I)Z"⟩, 1) := ⟨⟨by decide +kernel, by decide +kernel⟩, List.mem_of_getElem? (i := 66) (by decide +kernel), List.mem_of_getElem? (i := 365) (by decide +kernel), List.mem_of_getElem? (i := 366) (by decide +kernel)⟩
theorem lw_p2 : lw_okq (⟨"PaperRound$Plan", "isInOrder", "(LPaperRound$House;I)Z"⟩, 1) := ⟨⟨by decide +kernel, by decide +kernel⟩, List.mem_of_getElem? (i := 66) (by decide +kernel), List.mem_of_getElem? (i := 373) (by decide +kernel), List.mem_of_getElem? (i := 374) (by decide +kernel)⟩
theorem lw_p3 : lw_okq (⟨"PaperRound$Plan", "lossBy", "(LPaperRound$House;I)I"⟩, 1) := ⟨⟨by decide +kernel, by decide +kernel⟩, List.mem_of_getElem? (i := 66) (by decide +kernel), List.mem_of_getElem? (i := 404) (by decide +kernel), List.mem_of_getElem? (i := 405) (by decide +kernel)⟩
theorem lw_p4 : lw_okq (⟨"PaperRound", "found", "(I)I"⟩, 14) := ⟨⟨by decide +kernel, by decide +kernel⟩, List.mem_of_getElem? (i := 12) (by decide +kernel), List.mem_of_getElem? (i := 440) (by decide +kernel), List.mem_of_getElem? (i := 441) (by decide +kernel)⟩
theorem lw_p5 : lw_okq (⟨"PaperRound", "lackOfCard", "(I)I"⟩, 14) := ⟨⟨by decide +kernel, by decide +kernel⟩, List.mem_of_getElem? (i := 12) (by decide +kernel), List.mem_of_getElem? (i := 455) (by decide +kernel), List.mem_of_getElem? (i := 456) (by decide +kernel)⟩
theorem lw_p6 : lw_okq (⟨"PaperRound$Round", "pick", "(I)I"⟩, 7) := ⟨⟨by decide +kernel, by decide +kernel⟩, List.mem_of_getElem? (i := 96) (by decide +kernel), List.mem_of_getElem? (i := 471) (by decide +kernel), List.mem_of_getElem? (i := 472) (by decide +kernel)⟩
theorem lw_p7 : lw_okq (⟨"PaperRound$Round", "pickNext", "(I)I"⟩, 7) := ⟨⟨by decide +kernel, by decide +kernel⟩, List.mem_of_getElem? (i := 96) (by decide +kernel), List.mem_of_getElem? (i := 475) (by decide +kernel), List.mem_of_getElem? (i := 476) (by decide +kernel)⟩
theorem lw_p8 : lw_okq (⟨"PaperRound$Round", "firstOf", "(II)I"⟩, 7) := ⟨⟨by decide +kernel, by decide +kernel⟩, List.mem_of_getElem? (i := 96) (by decide +kernel), List.mem_of_getElem? (i := 479) (by decide +kernel), List.mem_of_getElem? (i := 480) (by decide +kernel)⟩
theorem lw_p9 : lw_okq (⟨"PaperRound$Round", "isThrough", "(I)Z"⟩, 7) := ⟨⟨by decide +kernel, by decide +kernel⟩, List.mem_of_getElem? (i := 96) (by decide +kernel), List.mem_of_getElem? (i := 484) (by decide +kernel), List.mem_of_getElem? (i := 485) (by decide +kernel)⟩
theorem lw_p10 : lw_okq (⟨"PaperRound$Round", "mayBegin", "(II)Z"⟩, 7) := ⟨⟨by decide +kernel, by decide +kernel⟩, List.mem_of_getElem? (i := 96) (by decide +kernel), List.mem_of_getElem? (i := 488) (by decide +kernel), List.mem_of_getElem? (i := 489) (by decide +kernel)⟩
theorem lw_p11 : lw_okq (⟨"PaperRound$Round", "freeCopy", "(II)I"⟩, 7) := ⟨⟨by decide +kernel, by decide +kernel⟩, List.mem_of_getElem? (i := 96) (by decide +kernel), List.mem_of_getElem? (i := 493) (by decide +kernel), List.mem_of_getElem? (i := 494) (by decide +kernel)⟩
theorem lw_p12 : lw_okq (⟨"PaperRound$Round", "pickDear", "(I)I"⟩, 7) := ⟨⟨by decide +kernel, by decide +kernel⟩, List.mem_of_getElem? (i := 96) (by decide +kernel), List.mem_of_getElem? (i := 499) (by decide +kernel), List.mem_of_getElem? (i := 500) (by decide +kernel)⟩
theorem lw_p13 : lw_okq (⟨"PaperRound$Round", "pickShort", "(I)I"⟩, 7) := ⟨⟨by decide +kernel, by decide +kernel⟩, List.mem_of_getElem? (i := 96) (by decide +kernel), List.mem_of_getElem? (i := 504) (by decide +kernel), List.mem_of_getElem? (i := 505) (by decide +kernel)⟩
theorem lw_p14 : lw_okq (⟨"PaperRound$Round", "pickByCard", "(I)I"⟩, 7) := ⟨⟨by decide +kernel, by decide +kernel⟩, List.mem_of_getElem? (i := 96) (by decide +kernel), List.mem_of_getElem? (i := 508) (by decide +kernel), List.mem_of_getElem? (i := 509) (by decide +kernel)⟩
theorem lw_p15 : lw_okq (⟨"PaperRound$Round", "begin", "(II)V"⟩, 7) := ⟨⟨by decide +kernel, by decide +kernel⟩, List.mem_of_getElem? (i := 96) (by decide +kernel), List.mem_of_getElem? (i := 512) (by decide +kernel), List.mem_of_getElem? (i := 513) (by decide +kernel)⟩
def lw_privs_1 : List (MethodName × Nat) := [(⟨"PaperRound$Plan", "firstWrongOf", "(LPaperRound$House;I)I"⟩, 1), (⟨"PaperRound$Plan", "isCrowded", "(LPaperRound$House;I)Z"⟩, 1), (⟨"PaperRound$Plan", "isInOrder", "(LPaperRound$House;I)Z"⟩, 1), (⟨"PaperRound$Plan", "lossBy", "(LPaperRound$House;I)I"⟩, 1), (⟨"PaperRound", "found", "(I)I"⟩, 14), (⟨"PaperRound", "lackOfCard", "(I)I"⟩, 14), (⟨"PaperRound$Round", "pick", "(I)I"⟩, 7), (⟨"PaperRound$Round", "pickNext", "(I)I"⟩, 7), (⟨"PaperRound$Round", "firstOf", "(II)I"⟩, 7), (⟨"PaperRound$Round", "isThrough", "(I)Z"⟩, 7), (⟨"PaperRound$Round", "mayBegin", "(II)Z"⟩, 7), (⟨"PaperRound$Round", "freeCopy", "(II)I"⟩, 7), (⟨"PaperRound$Round", "pickDear", "(I)I"⟩, 7), (⟨"PaperRound$Round", "pickShort", "(I)I"⟩, 7), (⟨"PaperRound$Round", "pickByCard", "(I)I"⟩, 7), (⟨"PaperRound$Round", "begin", "(II)V"⟩, 7)]
theorem lw_r1 : ∀ q ∈ lw_privs_1, lw_okq q := List.forall_mem_cons.mpr ⟨lw_p0, List.forall_mem_cons.mpr ⟨lw_p1, List.forall_mem_cons.mpr ⟨lw_p2, List.forall_mem_cons.mpr ⟨lw_p3, List.forall_mem_cons.mpr ⟨lw_p4, List.forall_mem_cons.mpr ⟨lw_p5, List.forall_mem_cons.mpr ⟨lw_p6, List.forall_mem_cons.mpr ⟨lw_p7, List.forall_mem_cons.mpr ⟨lw_p8, List.forall_mem_cons.mpr ⟨lw_p9, List.forall_mem_cons.mpr ⟨lw_p10, List.forall_mem_cons.mpr ⟨lw_p11, List.forall_mem_cons.mpr ⟨lw_p12, List.forall_mem_cons.mpr ⟨lw_p13, List.forall_mem_cons.mpr ⟨lw_p14, List.forall_mem_cons.mpr ⟨lw_p15, fun _ h => absurd h List.not_mem_nil⟩⟩⟩⟩⟩⟩⟩⟩⟩⟩⟩⟩⟩⟩⟩⟩
theorem lw_p16 : lw_okq (⟨"PaperRound$Round", "letGo", "(I)V"⟩, 7) := ⟨⟨by decide +kernel, by decide +kernel⟩, List.mem_of_getElem? (i := 96) (by decide +kernel), List.mem_of_getElem? (i := 516) (by decide +kernel), List.mem_of_getElem? (i := 517) (by decide +kernel)⟩
theorem lw_p17 : lw_okq (⟨"PaperRound$Rule", "swap", "(II)V"⟩, 2) := ⟨⟨by decide +kernel, by decide +kernel⟩, List.mem_of_getElem? (i := 79) (by decide +kernel), List.mem_of_getElem? (i := 534) (by decide +kernel), List.mem_of_getElem? (i := 535) (by decide +kernel)⟩
theorem lw_p18 : lw_okq (⟨"PaperRound", "searchAll", "(I)I"⟩, 14) := ⟨⟨by decide +kernel, by decide +kernel⟩, List.mem_of_getElem? (i := 12) (by decide +kernel), List.mem_of_getElem? (i := 542) (by decide +kernel), List.mem_of_getElem? (i := 543) (by decide +kernel)⟩
theorem lw_p19 : lw_okq (⟨"PaperRound$Search", "miss", "(II)V"⟩, 17) := ⟨⟨by decide +kernel, by decide +kernel⟩, List.mem_of_getElem? (i := 124) (by decide +kernel), List.mem_of_getElem? (i := 554) (by decide +kernel), List.mem_of_getElem? (i := 555) (by decide +kernel)⟩
theorem lw_p20 : lw_okq (⟨"PaperRound$Search", "weigh", "(I)V"⟩, 17) := ⟨⟨by decide +kernel, by decide +kernel⟩, List.mem_of_getElem? (i := 124) (by decide +kernel), List.mem_of_getElem? (i := 566) (by decide +kernel), List.mem_of_getElem? (i := 567) (by decide +kernel)⟩
theorem lw_p21 : lw_okq (⟨"PaperRound$Search", "hope", "(I)I"⟩, 17) := ⟨⟨by decide +kernel, by decide +kernel⟩, List.mem_of_getElem? (i := 124) (by decide +kernel), List.mem_of_getElem? (i := 574) (by decide +kernel), List.mem_of_getElem? (i := 575) (by decide +kernel)⟩
theorem lw_p22 : lw_okq (⟨"PaperRound$Search", "earliest", "(I)I"⟩, 17) := ⟨⟨by decide +kernel, by decide +kernel⟩, List.mem_of_getElem? (i := 124) (by decide +kernel), List.mem_of_getElem? (i := 578) (by decide +kernel), List.mem_of_getElem? (i := 579) (by decide +kernel)⟩
theorem lw_p23 : lw_okq (⟨"PaperRound$Search", "firstCopy", "(I)I"⟩, 17) := ⟨⟨by decide +kernel, by decide +kernel⟩, List.mem_of_getElem? (i := 124) (by decide +kernel), List.mem_of_getElem? (i := 582) (by decide +kernel), List.mem_of_getElem? (i := 583) (by decide +kernel)⟩
theorem lw_p24 : lw_okq (⟨"PaperRound$Search", "isNext", "(I)Z"⟩, 17) := ⟨⟨by decide +kernel, by decide +kernel⟩, List.mem_of_getElem? (i := 124) (by decide +kernel), List.mem_of_getElem? (i := 590) (by decide +kernel), List.mem_of_getElem? (i := 591) (by decide +kernel)⟩
theorem lw_p25 : lw_okq (⟨"PaperRound$Search", "place", "(III)V"⟩, 17) := ⟨⟨by decide +kernel, by decide +kernel⟩, List.mem_of_getElem? (i := 124) (by decide +kernel), List.mem_of_getElem? (i := 594) (by decide +kernel), List.mem_of_getElem? (i := 595) (by decide +kernel)⟩
theorem lw_p26 : lw_okq (⟨"PaperRound$Search", "takeBack", "(II)V"⟩, 17) := ⟨⟨by decide +kernel, by decide +kernel⟩, List.mem_of_getElem? (i := 124) (by decide +kernel), List.mem_of_getElem? (i := 598) (by decide +kernel), List.mem_of_getElem? (i := 599) (by decide +kernel)⟩
theorem lw_p27 : lw_okq (⟨"PaperRound", "keepAhead", "(I)V"⟩, 14) := ⟨⟨by decide +kernel, by decide +kernel⟩, List.mem_of_getElem? (i := 12) (by decide +kernel), List.mem_of_getElem? (i := 614) (by decide +kernel), List.mem_of_getElem? (i := 615) (by decide +kernel)⟩
theorem lw_p28 : lw_okq (⟨"PaperRound", "canAllHaveAll", "(I)Z"⟩, 14) := ⟨⟨by decide +kernel, by decide +kernel⟩, List.mem_of_getElem? (i := 12) (by decide +kernel), List.mem_of_getElem? (i := 639) (by decide +kernel), List.mem_of_getElem? (i := 640) (by decide +kernel)⟩
theorem lw_p29 : lw_okq (⟨"PaperRound$HouseText", "look", "()I"⟩, 7) := ⟨⟨by decide +kernel, by decide +kernel⟩, List.mem_of_getElem? (i := 38) (by decide +kernel), List.mem_of_getElem? (i := 688) (by decide +kernel), List.mem_of_getElem? (i := 689) (by decide +kernel)⟩
theorem lw_p30 : lw_okq (⟨"PaperRound$HouseText", "takeSign", "(C)Z"⟩, 7) := ⟨⟨by decide +kernel, by decide +kernel⟩, List.mem_of_getElem? (i := 38) (by decide +kernel), List.mem_of_getElem? (i := 692) (by decide +kernel), List.mem_of_getElem? (i := 693) (by decide +kernel)⟩
theorem lw_p31 : lw_okq (⟨"PaperRound$HouseText", "takeLast", "()Z"⟩, 7) := ⟨⟨by decide +kernel, by decide +kernel⟩, List.mem_of_getElem? (i := 38) (by decide +kernel), List.mem_of_getElem? (i := 696) (by decide +kernel), List.mem_of_getElem? (i := 697) (by decide +kernel)⟩
def lw_privs_2 : List (MethodName × Nat) := [(⟨"PaperRound$Round", "letGo", "(I)V"⟩, 7), (⟨"PaperRound$Rule", "swap", "(II)V"⟩, 2), (⟨"PaperRound", "searchAll", "(I)I"⟩, 14), (⟨"PaperRound$Search", "miss", "(II)V"⟩, 17), (⟨"PaperRound$Search", "weigh", "(I)V"⟩, 17), (⟨"PaperRound$Search", "hope", "(I)I"⟩, 17), (⟨"PaperRound$Search", "earliest", "(I)I"⟩, 17), (⟨"PaperRound$Search", "firstCopy", "(I)I"⟩, 17), (⟨"PaperRound$Search", "isNext", "(I)Z"⟩, 17), (⟨"PaperRound$Search", "place", "(III)V"⟩, 17), (⟨"PaperRound$Search", "takeBack", "(II)V"⟩, 17), (⟨"PaperRound", "keepAhead", "(I)V"⟩, 14), (⟨"PaperRound", "canAllHaveAll", "(I)Z"⟩, 14), (⟨"PaperRound$HouseText", "look", "()I"⟩, 7), (⟨"PaperRound$HouseText", "takeSign", "(C)Z"⟩, 7), (⟨"PaperRound$HouseText", "takeLast", "()Z"⟩, 7)]
theorem lw_r2 : ∀ q ∈ lw_privs_2, lw_okq q := List.forall_mem_cons.mpr ⟨lw_p16, List.forall_mem_cons.mpr ⟨lw_p17, List.forall_mem_cons.mpr ⟨lw_p18, List.forall_mem_cons.mpr ⟨lw_p19, List.forall_mem_cons.mpr ⟨lw_p20, List.forall_mem_cons.mpr ⟨lw_p21, List.forall_mem_cons.mpr ⟨lw_p22, List.forall_mem_cons.mpr ⟨lw_p23, List.forall_mem_cons.mpr ⟨lw_p24, List.forall_mem_cons.mpr ⟨lw_p25, List.forall_mem_cons.mpr ⟨lw_p26, List.forall_mem_cons.mpr ⟨lw_p27, List.forall_mem_cons.mpr ⟨lw_p28, List.forall_mem_cons.mpr ⟨lw_p29, List.forall_mem_cons.mpr ⟨lw_p30, List.forall_mem_cons.mpr ⟨lw_p31, fun _ h => absurd h List.not_mem_nil⟩⟩⟩⟩⟩⟩⟩⟩⟩⟩⟩⟩⟩⟩⟩⟩
theorem lw_p32 : lw_okq (⟨"PaperRound$HouseText", "takeMinute", "(II)Z"⟩, 7) := ⟨⟨by decide +kernel, by decide +kernel⟩, List.mem_of_getElem? (i := 38) (by decide +kernel), List.mem_of_getElem? (i := 700) (by decide +kernel), List.mem_of_getElem? (i := 701) (by decide +kernel)⟩
theorem lw_p33 : lw_okq (⟨"PaperRound$HouseText", "figure", "()I"⟩, 7) := ⟨⟨by decide +kernel, by decide +kernel⟩, List.mem_of_getElem? (i := 38) (by decide +kernel), List.mem_of_getElem? (i := 704) (by decide +kernel), List.mem_of_getElem? (i := 705) (by decide +kernel)⟩
theorem lw_p34 : lw_okq (⟨"PaperRound$HouseText", "takePart", "()Z"⟩, 7) := ⟨⟨by decide +kernel, by decide +kernel⟩, List.mem_of_getElem? (i := 38) (by decide +kernel), List.mem_of_getElem? (i := 708) (by decide +kernel), List.mem_of_getElem? (i := 709) (by decide +kernel)⟩
theorem lw_p35 : lw_okq (⟨"PaperRound$HouseText", "takeFigure", "(II)Z"⟩, 7) := ⟨⟨by decide +kernel, by decide +kernel⟩, List.mem_of_getElem? (i := 38) (by decide +kernel), List.mem_of_getElem? (i := 712) (by decide +kernel), List.mem_of_getElem? (i := 713) (by decide +kernel)⟩
theorem lw_p36 : lw_okq (⟨"PaperRound$HouseText", "takeReader", "()Z"⟩, 7) := ⟨⟨by decide +kernel, by decide +kernel⟩, List.mem_of_getElem? (i := 38) (by decide +kernel), List.mem_of_getElem? (i := 720) (by decide +kernel), List.mem_of_getElem? (i := 721) (by decide +kernel)⟩
theorem lw_p37 : lw_okq (⟨"PaperRound$HouseText", "takeWant", "()Z"⟩, 7) := ⟨⟨by decide +kernel, by decide +kernel⟩, List.mem_of_getElem? (i := 38) (by decide +kernel), List.mem_of_getElem? (i := 728) (by decide +kernel), List.mem_of_getElem? (i := 729) (by decide +kernel)⟩
theorem lw_p38 : lw_okq (⟨"PaperRound$HouseText", "takeNot", "()Z"⟩, 7) := ⟨⟨by decide +kernel, by decide +kernel⟩, List.mem_of_getElem? (i := 38) (by decide +kernel), List.mem_of_getElem? (i := 741) (by decide +kernel), List.mem_of_getElem? (i := 742) (by decide +kernel)⟩
theorem lw_p39 : lw_okq (⟨"PaperRound$HouseText", "takeCushion", "()Z"⟩, 7) := ⟨⟨by decide +kernel, by decide +kernel⟩, List.mem_of_getElem? (i := 38) (by decide +kernel), List.mem_of_getElem? (i := 750) (by decide +kernel), List.mem_of_getElem? (i := 751) (by decide +kernel)⟩
def lw_privs_3 : List (MethodName × Nat) := [(⟨"PaperRound$HouseText", "takeMinute", "(II)Z"⟩, 7), (⟨"PaperRound$HouseText", "figure", "()I"⟩, 7), (⟨"PaperRound$HouseText", "takePart", "()Z"⟩, 7), (⟨"PaperRound$HouseText", "takeFigure", "(II)Z"⟩, 7), (⟨"PaperRound$HouseText", "takeReader", "()Z"⟩, 7), (⟨"PaperRound$HouseText", "takeWant", "()Z"⟩, 7), (⟨"PaperRound$HouseText", "takeNot", "()Z"⟩, 7), (⟨"PaperRound$HouseText", "takeCushion", "()Z"⟩, 7)]
theorem lw_r3 : ∀ q ∈ lw_privs_3, lw_okq q := List.forall_mem_cons.mpr ⟨lw_p32, List.forall_mem_cons.mpr ⟨lw_p33, List.forall_mem_cons.mpr ⟨lw_p34, List.forall_mem_cons.mpr ⟨lw_p35, List.forall_mem_cons.mpr ⟨lw_p36, List.forall_mem_cons.mpr ⟨lw_p37, List.forall_mem_cons.mpr ⟨lw_p38, List.forall_mem_cons.mpr ⟨lw_p39, fun _ h => absurd h List.not_mem_nil⟩⟩⟩⟩⟩⟩⟩⟩
def lw_privs : List (MethodName × Nat) := lw_privs_1 ++ (lw_privs_2 ++ (lw_privs_3))
def lw_tbl : List Cond := k2_sels lw_privs ++ tables_1
theorem lw_privs_ok : ∀ q ∈ lw_privs, lw_okq q := by
  show ∀ q ∈ lw_privs_1 ++ (lw_privs_2 ++ (lw_privs_3)), lw_okq q
  exact List.forall_mem_append.mpr ⟨lw_r1, List.forall_mem_append.mpr ⟨lw_r2, lw_r3⟩⟩
-- ===== end of PART A; then your names; then what follows =====
def RX0 : String := "PaperRound$House"
def TX0 : u_T := fun k => match k with
  | 0 => ("PaperRound$House", "last", "I", false)
  | 1 => ("PaperRound$House", "parts", "I", false)
  | 2 => ("PaperRound$House", "readers", "I", false)
  | 3 => ("PaperRound$House", "wants", "I", false)
  | 4 => ("PaperRound$House", "copies", "[I", true)
  | 5 => ("PaperRound$House", "comes", "[I", true)
  | 6 => ("PaperRound$House", "stale", "[I", true)
  | 7 => ("PaperRound$House", "covered", "[J", true)
  | 8 => ("PaperRound$House", "from", "[I", true)
  | 9 => ("PaperRound$House", "till", "[I", true)
  | 10 => ("PaperRound$House", "wantsOf", "[I", true)
  | 11 => ("PaperRound$House", "ordered", "[Z", true)
  | 12 => ("PaperRound$House", "readerOf", "[I", true)
  | 13 => ("PaperRound$House", "partOf", "[I", true)
  | 14 => ("PaperRound$House", "minutes", "[I", true)
  | 15 => ("PaperRound$House", "worth", "[I", true)
  | 16 => ("PaperRound$House", "notAfter", "[I", true)
  | 17 => ("PaperRound$House", "rivals", "[I", true)
  | _ => ("PaperRound$House", "ahead", "[I", true)
def tyX0 : Nat → FieldType := fun k => match k with
  | 0 => .int
  | 1 => .int
  | 2 => .int
  | 3 => .int
  | 4 => .array .int
  | 5 => .array .int
  | 6 => .array .int
  | 7 => .array .long
  | 8 => .array .int
  | 9 => .array .int
  | 10 => .array .int
  | 11 => .array .boolean
  | 12 => .array .int
  | 13 => .array .int
  | 14 => .array .int
  | 15 => .array .int
  | 16 => .array .int
  | 17 => .array .int
  | _ => .array .int
abbrev wsX00 : List Cond := u_ws RX0 TX0 19
theorem nmX0 : ∀ a, a < 19 → ∀ b, b < 19 → a ≠ b → (TX0 a).2.1 ≠ (TX0 b).2.1 := by decide +kernel
theorem tyX0_ok : ∀ k, k < 19 → parseFieldDescriptor (TX0 k).2.2.1 = some (tyX0 k) := by decide +kernel
abbrev cX0_init : ByteArray := prog_2_method_1_code
def yX0_init : MethodName := ⟨RX0, "<init>", "()V"⟩
abbrev cX0_clear : ByteArray := prog_2_method_2_code
def yX0_clear : MethodName := ⟨RX0, "clear", "()V"⟩
abbrev cX0_hasPart : ByteArray := prog_2_method_3_code
def yX0_hasPart : MethodName := ⟨RX0, "hasPart", "(I)Z"⟩
abbrev cX0_hasReader : ByteArray := prog_2_method_4_code
def yX0_hasReader : MethodName := ⟨RX0, "hasReader", "(I)Z"⟩
abbrev cX0_addPart : ByteArray := prog_2_method_9_code
def yX0_addPart : MethodName := ⟨RX0, "addPart", "(III)V"⟩
abbrev cX0_addReader : ByteArray := prog_2_method_10_code
def yX0_addReader : MethodName := ⟨RX0, "addReader", "(IIZ)V"⟩
abbrev cX0_addWant : ByteArray := prog_2_method_11_code
def yX0_addWant : MethodName := ⟨RX0, "addWant", "(III)V"⟩
abbrev cX0_forbid : ByteArray := prog_2_method_12_code
def yX0_forbid : MethodName := ⟨RX0, "forbid", "(III)V"⟩
abbrev cX0_cover : ByteArray := prog_2_method_13_code
def yX0_cover : MethodName := ⟨RX0, "cover", "(III)V"⟩
abbrev cX0_wantOf : ByteArray := prog_2_method_14_code
def yX0_wantOf : MethodName := ⟨RX0, "wantOf", "(II)I"⟩
abbrev cX0_worthAt : ByteArray := prog_2_method_15_code
def yX0_worthAt : MethodName := ⟨RX0, "worthAt", "(II)I"⟩
abbrev cX0_coveredFrom : ByteArray := prog_2_method_16_code
def yX0_coveredFrom : MethodName := ⟨RX0, "coveredFrom", "(II)I"⟩
abbrev cX0_comesAfter : ByteArray := prog_2_method_17_code
def yX0_comesAfter : MethodName := ⟨RX0, "comesAfter", "(II[I)Z"⟩
abbrev cX0_latestBegin : ByteArray := prog_2_method_18_code
def yX0_latestBegin : MethodName := ⟨RX0, "latestBegin", "(I)I"⟩
def RX1 : String := "PaperRound$HouseText"
def TX1 : u_T := fun k => match k with
  | 0 => ("PaperRound$HouseText", "bytes", "[I", false)
  | 1 => ("PaperRound$HouseText", "size", "I", false)
  | 2 => ("PaperRound$HouseText", "place", "I", false)
  | 3 => ("PaperRound$HouseText", "number", "I", false)
  | 4 => ("PaperRound$HouseText", "nots", "I", false)
  | 5 => ("PaperRound$HouseText", "cushions", "I", false)
  | _ => ("PaperRound$HouseText", "house", "LPaperRound$House;", false)
def tyX1 : Nat → FieldType := fun k => match k with
  | 0 => .array .int
  | 1 => .int
  | 2 => .int
  | 3 => .int
  | 4 => .int
  | 5 => .int
  | _ => .object "PaperRound$House"
abbrev wsX10 : List Cond := u_ws RX1 TX1 7
theorem nmX1 : ∀ a, a < 7 → ∀ b, b < 7 → a ≠ b → (TX1 a).2.1 ≠ (TX1 b).2.1 := by decide +kernel
theorem tyX1_ok : ∀ k, k < 7 → parseFieldDescriptor (TX1 k).2.2.1 = some (tyX1 k) := by decide +kernel
abbrev cX1_init : ByteArray := prog_3_method_1_code
def yX1_init : MethodName := ⟨RX1, "<init>", "()V"⟩
abbrev cX1_take : ByteArray := prog_3_method_2_code
def yX1_take : MethodName := ⟨RX1, "take", "([IILPaperRound$House;)I"⟩
abbrev cX1_look : ByteArray := prog_3_method_3_code
def yX1_look : MethodName := ⟨RX1, "look", "()I"⟩
abbrev cX1_takeSign : ByteArray := prog_3_method_4_code
def yX1_takeSign : MethodName := ⟨RX1, "takeSign", "(C)Z"⟩
abbrev cX1_figure : ByteArray := prog_3_method_5_code
def yX1_figure : MethodName := ⟨RX1, "figure", "()I"⟩
abbrev cX1_takeFigure : ByteArray := prog_3_method_6_code
def yX1_takeFigure : MethodName := ⟨RX1, "takeFigure", "(II)Z"⟩
abbrev cX1_takeMinute : ByteArray := prog_3_method_7_code
def yX1_takeMinute : MethodName := ⟨RX1, "takeMinute", "(II)Z"⟩
abbrev cX1_takeLast : ByteArray := prog_3_method_8_code
def yX1_takeLast : MethodName := ⟨RX1, "takeLast", "()Z"⟩
abbrev cX1_takePart : ByteArray := prog_3_method_9_code
def yX1_takePart : MethodName := ⟨RX1, "takePart", "()Z"⟩
abbrev cX1_takeReader : ByteArray := prog_3_method_10_code
def yX1_takeReader : MethodName := ⟨RX1, "takeReader", "()Z"⟩
abbrev cX1_takeWant : ByteArray := prog_3_method_11_code
def yX1_takeWant : MethodName := ⟨RX1, "takeWant", "()Z"⟩
abbrev cX1_takeNot : ByteArray := prog_3_method_12_code
def yX1_takeNot : MethodName := ⟨RX1, "takeNot", "()Z"⟩
abbrev cX1_takeCushion : ByteArray := prog_3_method_13_code
def yX1_takeCushion : MethodName := ⟨RX1, "takeCushion", "()Z"⟩
def RX2 : String := "PaperRound$Plan"
def TX2 : u_T := fun k => match k with
  | _ => ("PaperRound$Plan", "begins", "[I", true)
def tyX2 : Nat → FieldType := fun k => match k with
  | _ => .array .int
abbrev wsX20 : List Cond := u_ws RX2 TX2 1
theorem nmX2 : ∀ a, a < 1 → ∀ b, b < 1 → a ≠ b → (TX2 a).2.1 ≠ (TX2 b).2.1 := by decide +kernel
theorem tyX2_ok : ∀ k, k < 1 → parseFieldDescriptor (TX2 k).2.2.1 = some (tyX2 k) := by decide +kernel
abbrev cX2_init : ByteArray := prog_4_method_1_code
def yX2_init : MethodName := ⟨RX2, "<init>", "()V"⟩
abbrev cX2_clear : ByteArray := prog_4_method_2_code
def yX2_clear : MethodName := ⟨RX2, "clear", "()V"⟩
abbrev cX2_become : ByteArray := prog_4_method_3_code
def yX2_become : MethodName := ⟨RX2, "become", "([II)V"⟩
abbrev cX2_isBegunAhead : ByteArray := prog_4_method_4_code
def yX2_isBegunAhead : MethodName := ⟨RX2, "isBegunAhead", "(II)Z"⟩
abbrev cX2_begunAhead : ByteArray := prog_4_method_5_code
def yX2_begunAhead : MethodName := ⟨RX2, "begunAhead", "(LPaperRound$House;I)I"⟩
abbrev cX2_isReadIn : ByteArray := prog_4_method_6_code
def yX2_isReadIn : MethodName := ⟨RX2, "isReadIn", "(LPaperRound$House;II)Z"⟩
abbrev cX2_lossOf : ByteArray := prog_4_method_7_code
def yX2_lossOf : MethodName := ⟨RX2, "lossOf", "(LPaperRound$House;I)I"⟩
abbrev cX2_lossOfAll : ByteArray := prog_4_method_8_code
def yX2_lossOfAll : MethodName := ⟨RX2, "lossOfAll", "(LPaperRound$House;)I"⟩
abbrev cX2_lossBy : ByteArray := prog_4_method_9_code
def yX2_lossBy : MethodName := ⟨RX2, "lossBy", "(LPaperRound$House;I)I"⟩
abbrev cX2_firstWrong : ByteArray := prog_4_method_10_code
def yX2_firstWrong : MethodName := ⟨RX2, "firstWrong", "(LPaperRound$House;)I"⟩
abbrev cX2_firstWrongOf : ByteArray := prog_4_method_11_code
def yX2_firstWrongOf : MethodName := ⟨RX2, "firstWrongOf", "(LPaperRound$House;I)I"⟩
abbrev cX2_isCrowded : ByteArray := prog_4_method_12_code
def yX2_isCrowded : MethodName := ⟨RX2, "isCrowded", "(LPaperRound$House;I)Z"⟩
abbrev cX2_isInOrder : ByteArray := prog_4_method_13_code
def yX2_isInOrder : MethodName := ⟨RX2, "isInOrder", "(LPaperRound$House;I)Z"⟩
def RX3 : String := "PaperRound$Round"
def TX3 : u_T := fun k => match k with
  | 0 => ("PaperRound$Round", "house", "LPaperRound$House;", false)
  | 1 => ("PaperRound$Round", "rule", "LPaperRound$Rule;", false)
  | 2 => ("PaperRound$Round", "begins", "[I", false)
  | 3 => ("PaperRound$Round", "begun", "I", false)
  | 4 => ("PaperRound$Round", "freeFrom", "[I", true)
  | 5 => ("PaperRound$Round", "copyEnd", "[I", true)
  | _ => ("PaperRound$Round", "copyReader", "[I", true)
def tyX3 : Nat → FieldType := fun k => match k with
  | 0 => .object "PaperRound$House"
  | 1 => .object "PaperRound$Rule"
  | 2 => .array .int
  | 3 => .int
  | 4 => .array .int
  | 5 => .array .int
  | _ => .array .int
abbrev wsX30 : List Cond := u_ws RX3 TX3 7
theorem nmX3 : ∀ a, a < 7 → ∀ b, b < 7 → a ≠ b → (TX3 a).2.1 ≠ (TX3 b).2.1 := by decide +kernel
theorem tyX3_ok : ∀ k, k < 7 → parseFieldDescriptor (TX3 k).2.2.1 = some (tyX3 k) := by decide +kernel
abbrev cX3_init : ByteArray := prog_5_method_1_code
def yX3_init : MethodName := ⟨RX3, "<init>", "()V"⟩
abbrev cX3_go : ByteArray := prog_5_method_2_code
def yX3_go : MethodName := ⟨RX3, "go", "(LPaperRound$House;LPaperRound$Rule;LPaperRound$Plan;)V"⟩
abbrev cX3_pick : ByteArray := prog_5_method_3_code
def yX3_pick : MethodName := ⟨RX3, "pick", "(I)I"⟩
abbrev cX3_pickByCard : ByteArray := prog_5_method_4_code
def yX3_pickByCard : MethodName := ⟨RX3, "pickByCard", "(I)I"⟩
abbrev cX3_pickNext : ByteArray := prog_5_method_5_code
def yX3_pickNext : MethodName := ⟨RX3, "pickNext", "(I)I"⟩
abbrev cX3_pickDear : ByteArray := prog_5_method_6_code
def yX3_pickDear : MethodName := ⟨RX3, "pickDear", "(I)I"⟩
abbrev cX3_pickShort : ByteArray := prog_5_method_7_code
def yX3_pickShort : MethodName := ⟨RX3, "pickShort", "(I)I"⟩
abbrev cX3_firstOf : ByteArray := prog_5_method_8_code
def yX3_firstOf : MethodName := ⟨RX3, "firstOf", "(II)I"⟩
abbrev cX3_mayBegin : ByteArray := prog_5_method_9_code
def yX3_mayBegin : MethodName := ⟨RX3, "mayBegin", "(II)Z"⟩
abbrev cX3_isThrough : ByteArray := prog_5_method_10_code
def yX3_isThrough : MethodName := ⟨RX3, "isThrough", "(I)Z"⟩
abbrev cX3_freeCopy : ByteArray := prog_5_method_11_code
def yX3_freeCopy : MethodName := ⟨RX3, "freeCopy", "(II)I"⟩
abbrev cX3_begin : ByteArray := prog_5_method_12_code
def yX3_begin : MethodName := ⟨RX3, "begin", "(II)V"⟩
abbrev cX3_letGo : ByteArray := prog_5_method_13_code
def yX3_letGo : MethodName := ⟨RX3, "letGo", "(I)V"⟩
def RX4 : String := "PaperRound$Rule"
def TX4 : u_T := fun k => match k with
  | 0 => ("PaperRound$Rule", "kind", "I", false)
  | _ => ("PaperRound$Rule", "card", "[I", true)
def tyX4 : Nat → FieldType := fun k => match k with
  | 0 => .int
  | _ => .array .int
abbrev wsX40 : List Cond := u_ws RX4 TX4 2
theorem nmX4 : ∀ a, a < 2 → ∀ b, b < 2 → a ≠ b → (TX4 a).2.1 ≠ (TX4 b).2.1 := by decide +kernel
theorem tyX4_ok : ∀ k, k < 2 → parseFieldDescriptor (TX4 k).2.2.1 = some (tyX4 k) := by decide +kernel
abbrev cX4_init : ByteArray := prog_6_method_1_code
def yX4_init : MethodName := ⟨RX4, "<init>", "()V"⟩
abbrev cX4_beginCard : ByteArray := prog_6_method_4_code
def yX4_beginCard : MethodName := ⟨RX4, "beginCard", "(I)V"⟩
abbrev cX4_nextCard : ByteArray := prog_6_method_5_code
def yX4_nextCard : MethodName := ⟨RX4, "nextCard", "(I)Z"⟩
abbrev cX4_swap : ByteArray := prog_6_method_6_code
def yX4_swap : MethodName := ⟨RX4, "swap", "(II)V"⟩
def RX5 : String := "PaperRound$Search"
def TX5 : u_T := fun k => match k with
  | 0 => ("PaperRound$Search", "bestLoss", "I", false)
  | 1 => ("PaperRound$Search", "bestBegins", "[I", true)
  | 2 => ("PaperRound$Search", "house", "LPaperRound$House;", false)
  | 3 => ("PaperRound$Search", "goal", "I", false)
  | 4 => ("PaperRound$Search", "from", "I", false)
  | 5 => ("PaperRound$Search", "ordersCount", "Z", false)
  | 6 => ("PaperRound$Search", "best", "I", false)
  | 7 => ("PaperRound$Search", "loss", "I", false)
  | 8 => ("PaperRound$Search", "placed", "I", false)
  | 9 => ("PaperRound$Search", "todos", "I", false)
  | 10 => ("PaperRound$Search", "todo", "[I", true)
  | 11 => ("PaperRound$Search", "next", "[[I", true)
  | 12 => ("PaperRound$Search", "lossOf", "[I", true)
  | 13 => ("PaperRound$Search", "hopeOf", "[I", true)
  | 14 => ("PaperRound$Search", "begins", "[I", true)
  | 15 => ("PaperRound$Search", "readerEnd", "[I", true)
  | _ => ("PaperRound$Search", "copyEnd", "[I", true)
def tyX5 : Nat → FieldType := fun k => match k with
  | 0 => .int
  | 1 => .array .int
  | 2 => .object "PaperRound$House"
  | 3 => .int
  | 4 => .int
  | 5 => .boolean
  | 6 => .int
  | 7 => .int
  | 8 => .int
  | 9 => .int
  | 10 => .array .int
  | 11 => .array (.array .int)
  | 12 => .array .int
  | 13 => .array .int
  | 14 => .array .int
  | 15 => .array .int
  | _ => .array .int
abbrev wsX50 : List Cond := u_ws RX5 TX5 17
theorem nmX5 : ∀ a, a < 17 → ∀ b, b < 17 → a ≠ b → (TX5 a).2.1 ≠ (TX5 b).2.1 := by decide +kernel
theorem tyX5_ok : ∀ k, k < 17 → parseFieldDescriptor (TX5 k).2.2.1 = some (tyX5 k) := by decide +kernel
abbrev cX5_init : ByteArray := prog_7_method_1_code
def yX5_init : MethodName := ⟨RX5, "<init>", "()V"⟩
abbrev cX5_start : ByteArray := prog_7_method_2_code
def yX5_start : MethodName := ⟨RX5, "start", "(LPaperRound$House;IZ)V"⟩
abbrev cX5_keep : ByteArray := prog_7_method_3_code
def yX5_keep : MethodName := ⟨RX5, "keep", "(II)V"⟩
abbrev cX5_add : ByteArray := prog_7_method_4_code
def yX5_add : MethodName := ⟨RX5, "add", "(I)V"⟩
abbrev cX5_go : ByteArray := prog_7_method_5_code
def yX5_go : MethodName := ⟨RX5, "go", "(I)I"⟩
abbrev cX5_grow : ByteArray := prog_7_method_6_code
def yX5_grow : MethodName := ⟨RX5, "grow", "(LPaperRound$Search;I)V"⟩
abbrev cX5_weigh : ByteArray := prog_7_method_7_code
def yX5_weigh : MethodName := ⟨RX5, "weigh", "(I)V"⟩
abbrev cX5_hope : ByteArray := prog_7_method_8_code
def yX5_hope : MethodName := ⟨RX5, "hope", "(I)I"⟩
abbrev cX5_worst : ByteArray := prog_7_method_9_code
def yX5_worst : MethodName := ⟨RX5, "worst", "([I)I"⟩
abbrev cX5_isNext : ByteArray := prog_7_method_10_code
def yX5_isNext : MethodName := ⟨RX5, "isNext", "(I)Z"⟩
abbrev cX5_earliest : ByteArray := prog_7_method_11_code
def yX5_earliest : MethodName := ⟨RX5, "earliest", "(I)I"⟩
abbrev cX5_firstCopy : ByteArray := prog_7_method_12_code
def yX5_firstCopy : MethodName := ⟨RX5, "firstCopy", "(I)I"⟩
abbrev cX5_place : ByteArray := prog_7_method_13_code
def yX5_place : MethodName := ⟨RX5, "place", "(III)V"⟩
abbrev cX5_takeBack : ByteArray := prog_7_method_14_code
def yX5_takeBack : MethodName := ⟨RX5, "takeBack", "(II)V"⟩
abbrev cX5_miss : ByteArray := prog_7_method_15_code
def yX5_miss : MethodName := ⟨RX5, "miss", "(II)V"⟩
def RX6 : String := "PaperRound$Shelf"
def TX6 : u_T := fun k => match k with
  | 0 => ("PaperRound$Shelf", "places", "[[I", true)
  | _ => ("PaperRound$Shelf", "sizes", "[I", true)
def tyX6 : Nat → FieldType := fun k => match k with
  | 0 => .array (.array .int)
  | _ => .array .int
abbrev wsX60 : List Cond := u_ws RX6 TX6 2
theorem nmX6 : ∀ a, a < 2 → ∀ b, b < 2 → a ≠ b → (TX6 a).2.1 ≠ (TX6 b).2.1 := by decide +kernel
theorem tyX6_ok : ∀ k, k < 2 → parseFieldDescriptor (TX6 k).2.2.1 = some (tyX6 k) := by decide +kernel
abbrev cX6_init : ByteArray := prog_8_method_1_code
def yX6_init : MethodName := ⟨RX6, "<init>", "(II)V"⟩
abbrev cX6_has : ByteArray := prog_8_method_2_code
def yX6_has : MethodName := ⟨RX6, "has", "(I)Z"⟩
abbrev cX6_isMissing : ByteArray := prog_8_method_3_code
def yX6_isMissing : MethodName := ⟨RX6, "isMissing", "(I)Z"⟩
abbrev cX6_lackAt : ByteArray := prog_8_method_4_code
def yX6_lackAt : MethodName := ⟨RX6, "lackAt", "(II)I"⟩
abbrev cX6_begin : ByteArray := prog_8_method_6_code
def yX6_begin : MethodName := ⟨RX6, "begin", "(III)V"⟩
def RX7 : String := "PaperRound"
def TX7 : u_T := fun k => match k with
  | 0 => ("PaperRound", "rows", "LPaperRound$Shelf;", true)
  | 1 => ("PaperRound", "texts", "LPaperRound$Shelf;", true)
  | 2 => ("PaperRound", "houseText", "LPaperRound$HouseText;", true)
  | 3 => ("PaperRound", "plan", "LPaperRound$Plan;", true)
  | 4 => ("PaperRound", "trialPlan", "LPaperRound$Plan;", true)
  | 5 => ("PaperRound", "rules", "[LPaperRound$Rule;", true)
  | 6 => ("PaperRound", "trialRule", "LPaperRound$Rule;", true)
  | 7 => ("PaperRound", "round", "LPaperRound$Round;", true)
  | 8 => ("PaperRound", "search", "LPaperRound$Search;", true)
  | 9 => ("PaperRound", "findings", "[I", true)
  | 10 => ("PaperRound", "house", "LPaperRound$House;", false)
  | 11 => ("PaperRound", "draft", "LPaperRound$House;", false)
  | 12 => ("PaperRound", "finding", "I", false)
  | _ => ("PaperRound", "asked", "I", false)
def tyX7 : Nat → FieldType := fun k => match k with
  | 0 => .object "PaperRound$Shelf"
  | 1 => .object "PaperRound$Shelf"
  | 2 => .object "PaperRound$HouseText"
  | 3 => .object "PaperRound$Plan"
  | 4 => .object "PaperRound$Plan"
  | 5 => .array (.object "PaperRound$Rule")
  | 6 => .object "PaperRound$Rule"
  | 7 => .object "PaperRound$Round"
  | 8 => .object "PaperRound$Search"
  | 9 => .array .int
  | 10 => .object "PaperRound$House"
  | 11 => .object "PaperRound$House"
  | 12 => .int
  | _ => .int
abbrev wsX70 : List Cond := u_ws RX7 TX7 14
theorem nmX7 : ∀ a, a < 14 → ∀ b, b < 14 → a ≠ b → (TX7 a).2.1 ≠ (TX7 b).2.1 := by decide +kernel
theorem tyX7_ok : ∀ k, k < 14 → parseFieldDescriptor (TX7 k).2.2.1 = some (tyX7 k) := by decide +kernel
abbrev cX7_init : ByteArray := prog_1_method_1_code
def yX7_init : MethodName := ⟨RX7, "<init>", "()V"⟩
abbrev cX7_text : ByteArray := prog_1_method_8_code
def yX7_text : MethodName := ⟨RX7, "text", "(II)I"⟩
abbrev cX7_put : ByteArray := prog_1_method_9_code
def yX7_put : MethodName := ⟨RX7, "put", "(III)I"⟩
abbrev cX7_fault : ByteArray := prog_1_method_10_code
def yX7_fault : MethodName := ⟨RX7, "fault", "(I)I"⟩
abbrev cX7_house : ByteArray := prog_1_method_11_code
def yX7_house : MethodName := ⟨RX7, "house", "(I)I"⟩
abbrev cX7_copies : ByteArray := prog_1_method_15_code
def yX7_copies : MethodName := ⟨RX7, "copies", "(II)I"⟩
abbrev cX7_late : ByteArray := prog_1_method_17_code
def yX7_late : MethodName := ⟨RX7, "late", "(III)I"⟩
abbrev cX7_judge : ByteArray := prog_1_method_19_code
def yX7_judge : MethodName := ⟨RX7, "judge", "()I"⟩
abbrev cX7_missed : ByteArray := prog_1_method_20_code
def yX7_missed : MethodName := ⟨RX7, "missed", "(I)I"⟩
abbrev cX7_image : ByteArray := prog_1_method_23_code
def yX7_image : MethodName := ⟨RX7, "image", "(I)I"⟩
abbrev cX7_on : ByteArray := prog_1_method_24_code
def yX7_on : MethodName := ⟨RX7, "on", "(I)I"⟩
abbrev cX7_rule : ByteArray := prog_1_method_25_code
def yX7_rule : MethodName := ⟨RX7, "rule", "(III)I"⟩
abbrev cX7_run : ByteArray := prog_1_method_27_code
def yX7_run : MethodName := ⟨RX7, "run", "(I)I"⟩
abbrev cX7_best : ByteArray := prog_1_method_28_code
def yX7_best : MethodName := ⟨RX7, "best", "(I)I"⟩
abbrev cX7_least : ByteArray := prog_1_method_29_code
def yX7_least : MethodName := ⟨RX7, "least", "()I"⟩
abbrev cX7_mend : ByteArray := prog_1_method_30_code
def yX7_mend : MethodName := ⟨RX7, "mend", "(I)I"⟩
abbrev cX7_soon : ByteArray := prog_1_method_31_code
def yX7_soon : MethodName := ⟨RX7, "soon", "()I"⟩
abbrev cX7_even : ByteArray := prog_1_method_32_code
def yX7_even : MethodName := ⟨RX7, "even", "()I"⟩
abbrev cX7_bound : ByteArray := prog_1_method_33_code
def yX7_bound : MethodName := ⟨RX7, "bound", "()I"⟩
abbrev cX7_quarrel : ByteArray := prog_1_method_34_code
def yX7_quarrel : MethodName := ⟨RX7, "quarrel", "()I"⟩
abbrev cX7_asked : ByteArray := prog_1_method_36_code
def yX7_asked : MethodName := ⟨RX7, "asked", "()I"⟩
abbrev cX7_found : ByteArray := prog_1_method_41_code
def yX7_found : MethodName := ⟨RX7, "found", "(I)I"⟩
abbrev cX7_isBeginning : ByteArray := prog_1_method_42_code
def yX7_isBeginning : MethodName := ⟨RX7, "isBeginning", "(I)Z"⟩
abbrev cX7_lackOfCard : ByteArray := prog_1_method_44_code
def yX7_lackOfCard : MethodName := ⟨RX7, "lackOfCard", "(I)I"⟩
abbrev cX7_searchAll : ByteArray := prog_1_method_46_code
def yX7_searchAll : MethodName := ⟨RX7, "searchAll", "(I)I"⟩
abbrev cX7_canAllHaveAll : ByteArray := prog_1_method_47_code
def yX7_canAllHaveAll : MethodName := ⟨RX7, "canAllHaveAll", "(I)Z"⟩
abbrev cX7_keepAhead : ByteArray := prog_1_method_48_code
def yX7_keepAhead : MethodName := ⟨RX7, "keepAhead", "(I)V"⟩
def RX8 : String := "PaperRoundModel"
def TX8 : u_T := fun k => match k with
  | _ => ("", "", "", false)
def tyX8 : Nat → FieldType := fun k => match k with
  | _ => .int
abbrev wsX80 : List Cond := u_ws RX8 TX8 0
theorem nmX8 : ∀ a, a < 0 → ∀ b, b < 0 → a ≠ b → (TX8 a).2.1 ≠ (TX8 b).2.1 := by decide +kernel
theorem tyX8_ok : ∀ k, k < 0 → parseFieldDescriptor (TX8 k).2.2.1 = some (tyX8 k) := by decide +kernel
def RJ9 : String := "java/lang/Math"
def RJ10 : String := "java/lang/System"
def RL : String := "PaperRoundLaw"
abbrev cL_cell : ByteArray := method_2_code
def yL_cell : MethodName := ⟨RL, "cell", "([II)I"⟩
abbrev cL_put : ByteArray := method_3_code
def yL_put : MethodName := ⟨RL, "put", "(LPaperRound;II)I"⟩
abbrev cL_number : ByteArray := method_4_code
def yL_number : MethodName := ⟨RL, "number", "(LPaperRound;II)I"⟩
abbrev cL_numbers : ByteArray := method_5_code
def yL_numbers : MethodName := ⟨RL, "numbers", "([IIIIIZ[I[I)V"⟩
abbrev cL_house : ByteArray := method_6_code
def yL_house : MethodName := ⟨RL, "house", "(LPaperRound;[I[I)Z"⟩
abbrev cL_law : ByteArray := code
def yL_law : MethodName := ⟨RL, "law", "([I)Z"⟩
abbrev vwCl : List vw_C := [(RX0, TX0, 19), (RX1, TX1, 7), (RX2, TX2, 1), (RX3, TX3, 7), (RX4, TX4, 2), (RX5, TX5, 17), (RX6, TX6, 2), (RX7, TX7, 14)]
end
section
/-! A PURE SEMANTICS of the bytecode that the system uses, over a heap whose cells bear numbers: 0 is null, 1 the script, 2, 3 .. the cells in the order in which they are made.
A value: an int, a cell's number, a long. -/
abbrev z_Hp : Type := Nat × (Nat → Nat → Int32) × (Nat → Nat → Nat) × (Nat → Nat → Int64)
abbrev z_V : Type := Int32 ⊕ (Nat ⊕ Int64)
abbrev z_vi (x : Int32) : z_V := .inl x
abbrev z_vr (a : Nat) : z_V := .inr (.inl a)
abbrev z_vl (x : Int64) : z_V := .inr (.inr x)
abbrev z_Ls : Type := List (Option z_V)
abbrev z_R : Type := Option z_V × z_Hp
abbrev z_O : Type := Option z_R
abbrev z_K : Type := Nat → z_Ls → List z_V → z_Hp → z_O
abbrev z_C : Type := Nat → List z_V → z_Hp → z_O
abbrev z_Sc : Type := Nat × (Nat → Int32)
/-- what a heap holds: int i, cell's number, long of a cell's place -/
def z_I (h : z_Hp) (a k : Nat) : Int32 := h.2.1 a k
def z_F (h : z_Hp) (a k : Nat) : Nat := h.2.2.1 a k
def z_J (h : z_Hp) (a k : Nat) : Int64 := h.2.2.2 a k
def z_row {α : Type} (f : Nat → Nat → α) (a : Nat) (g : Nat → α) : Nat → Nat → α := fun b => if b = a then g else f b
def z_up {α : Type} (f : Nat → α) (k : Nat) (v : α) : Nat → α := fun j => if j = k then v else f j
def z_sI (h : z_Hp) (a k : Nat) (v : Int32) : z_Hp := (h.1, z_row h.2.1 a (z_up (h.2.1 a) k v), h.2.2.1, h.2.2.2)
def z_sF (h : z_Hp) (a k : Nat) (v : Nat) : z_Hp := (h.1, h.2.1, z_row h.2.2.1 a (z_up (h.2.2.1 a) k v), h.2.2.2)
def z_sJ (h : z_Hp) (a k : Nat) (v : Int64) : z_Hp := (h.1, h.2.1, h.2.2.1, z_row h.2.2.2 a (z_up (h.2.2.2 a) k v))
/-- n places of an int row come to another row's -/
def z_cp (f g : Nat → Int32) (sp dp n : Nat) : Nat → Int32 := fun k => if dp ≤ k ∧ k < dp + n then f (sp + (k - dp)) else g k
def z_cpI (h : z_Hp) (a sp b dp n : Nat) : z_Hp := (h.1, z_row h.2.1 b (z_cp (h.2.1 a) (h.2.1 b) sp dp n), h.2.2.1, h.2.2.2)
/-- a new cell: all its places are 0 -/
def z_nw (h : z_Hp) : z_Hp := (h.1 + 1, z_row h.2.1 (h.1 + 2) (fun _ => 0), z_row h.2.2.1 (h.1 + 2) (fun _ => 0), z_row h.2.2.2 (h.1 + 2) (fun _ => 0))
/-- an outer row of n inner ones -/
def z_nwm (h : z_Hp) (n : Nat) : z_Hp := (h.1 + 1 + n, (fun b => if h.1 + 2 ≤ b ∧ b < h.1 + 3 + n then (fun _ => 0) else h.2.1 b), z_row h.2.2.1 (h.1 + 2) (fun i => if i < n then h.1 + 3 + i else 0), h.2.2.2)
/-- int rows 10, long 11, byte 12, boolean 13, rows of Rules 14, rows of int rows 15; below 9 the classes -/
def z_gd (b : Bool) (x : z_O) : z_O := match b with
  | true => x
  | false => none
/-- a call's answer goes on -/
def z_ci (o : z_O) (f : Int32 → z_Hp → z_O) : z_O := match o with
  | some (some (.inl x), h) => f x h
  | _ => none
def z_cl (o : z_O) (f : Int64 → z_Hp → z_O) : z_O := match o with
  | some (some (.inr (.inr x)), h) => f x h
  | _ => none
def z_cv (o : z_O) (f : z_Hp → z_O) : z_O := match o with
  | some (none, h) => f h
  | _ => none
def z_ldi (ls : z_Ls) (k : Nat) (f : Int32 → z_O) : z_O := match ls[k]? with
  | some (some (.inl x)) => f x
  | _ => none
def z_ldr (ls : z_Ls) (k : Nat) (f : Nat → z_O) : z_O := match ls[k]? with
  | some (some (.inr (.inl x))) => f x
  | _ => none
def z_ldl (ls : z_Ls) (k : Nat) (f : Int64 → z_O) : z_O := match ls[k]? with
  | some (some (.inr (.inr x))) => f x
  | _ => none
def z_cat (v : z_V) : Nat := match v with
  | .inr (.inr _) => 2
  | _ => 1
def z_cats (st : List z_V) : Nat := match st with
  | [] => 0
  | v :: r => z_cat v + z_cats r
/-- a place may be stored to: it is there, and the one ahead of it is no long -/
def z_lo (o : Option (Option z_V)) : Bool := match o with
  | some (some (.inr (.inr _))) => false
  | _ => true
def z_sk (ls : z_Ls) (k : Nat) : Bool := Nat.blt k ls.length && (match k with
  | 0 => true
  | j + 1 => z_lo (ls[j]?))
/-- a switch's targets, one after the other -/
def z_sw (K : Nat → z_O) (pc : Nat) (x : Int32) (d : Int) : List (Int × Int) → z_O
  | [] => K ((pc : Int) + d).toNat
  | q :: r => if x = Int32.ofInt q.1 then K ((pc : Int) + q.2).toNat else z_sw K pc x d r
def z_tp (lo : Int) : List Int → List (Int × Int)
  | [] => []
  | o :: r => (lo, o) :: z_tp (lo + 1) r
end
section
/-! TABLES of the program, written by wip/p42/gen/tab.py. Two numberings of the cells: w_kd the machine's (x, x again, four rows), z_kd the one of the runs over whole numbers (behind each x its ghost) -/
/-- each cell's kind and length, by its number -/
def w_kdl : List (Nat × Nat) := [(99, 0), (98, 0), (7, 14), (6, 2), (15, 6), (10, 48), (10, 48), (10, 48), (10, 48), (10, 48), (10, 48), (10, 6), (6, 2), (15, 4), (10, 120), (10, 120), (10, 120), (10, 120), (10, 4), (1, 7), (2, 1), (10, 24), (2, 1), (10, 24), (14, 6), (4, 2), (10, 8), (4, 2), (10, 8), (4, 2), (10, 8), (4, 2), (10, 8), (4, 2), (10, 8), (4, 2), (10, 8), (4, 2), (10, 8), (3, 7), (10, 8), (10, 12), (10, 12), (5, 17), (10, 24), (10, 8), (15, 9), (10, 8), (10, 8), (10, 8), (10, 8), (10, 8), (10, 8), (10, 8), (10, 8), (10, 8), (10, 8), (10, 8), (10, 24), (10, 8), (10, 12), (10, 6), (0, 19), (10, 6), (10, 6), (10, 6), (11, 6), (10, 8), (10, 8), (10, 8), (13, 8), (10, 24), (10, 24), (10, 24), (10, 24), (10, 24), (10, 24), (10, 24), (0, 19), (10, 6), (10, 6), (10, 6), (11, 6), (10, 8), (10, 8), (10, 8), (13, 8), (10, 24), (10, 24), (10, 24), (10, 24), (10, 24), (10, 24), (10, 24), (7, 14), (6, 2), (15, 6), (10, 48), (10, 48), (10, 48), (10, 48), (10, 48), (10, 48), (10, 6), (6, 2), (15, 4), (10, 120), (10, 120), (10, 120), (10, 120), (10, 4), (1, 7), (2, 1), (10, 24), (2, 1), (10, 24), (14, 6), (4, 2), (10, 8), (4, 2), (10, 8), (4, 2), (10, 8), (4, 2), (10, 8), (4, 2), (10, 8), (4, 2), (10, 8), (4, 2), (10, 8), (3, 7), (10, 8), (10, 12), (10, 12), (5, 17), (10, 24), (10, 8), (15, 9), (10, 8), (10, 8), (10, 8), (10, 8), (10, 8), (10, 8), (10, 8), (10, 8), (10, 8), (10, 8), (10, 8), (10, 24), (10, 8), (10, 12), (10, 6), (0, 19), (10, 6), (10, 6), (10, 6), (11, 6), (10, 8), (10, 8), (10, 8), (13, 8), (10, 24), (10, 24), (10, 24), (10, 24), (10, 24), (10, 24), (10, 24), (0, 19), (10, 6), (10, 6), (10, 6), (11, 6), (10, 8), (10, 8), (10, 8), (13, 8), (10, 24), (10, 24), (10, 24), (10, 24), (10, 24), (10, 24), (10, 24), (10, 64), (10, 64), (10, 64), (10, 64)]
def w_kd (a : Nat) : Nat × Nat := match w_kdl[a]? with
  | some q => q
  | none => (99, 0)
def z_kdl : List (Nat × Nat) := [(99, 0), (98, 0), (7, 14), (6, 2), (15, 6), (10, 48), (10, 48), (10, 48), (10, 48), (10, 48), (10, 48), (10, 6), (6, 2), (15, 4), (10, 120), (10, 120), (10, 120), (10, 120), (10, 4), (1, 7), (2, 1), (10, 24), (2, 1), (10, 24), (14, 6), (4, 2), (10, 8), (4, 2), (10, 8), (4, 2), (10, 8), (4, 2), (10, 8), (4, 2), (10, 8), (4, 2), (10, 8), (4, 2), (10, 8), (3, 7), (10, 8), (10, 12), (10, 12), (5, 17), (10, 24), (10, 8), (15, 9), (10, 8), (10, 8), (10, 8), (10, 8), (10, 8), (10, 8), (10, 8), (10, 8), (10, 8), (10, 8), (10, 8), (10, 24), (10, 8), (10, 12), (10, 6), (0, 19), (10, 6), (10, 6), (10, 6), (11, 6), (10, 8), (10, 8), (10, 8), (13, 8), (10, 24), (10, 24), (10, 24), (10, 24), (10, 24), (10, 24), (10, 24), (0, 19), (10, 6), (10, 6), (10, 6), (11, 6), (10, 8), (10, 8), (10, 8), (13, 8), (10, 24), (10, 24), (10, 24), (10, 24), (10, 24), (10, 24), (10, 24), (8, 48), (10, 6), (10, 6), (10, 288), (10, 48), (10, 4), (12, 480), (10, 18), (10, 24), (10, 96), (10, 24), (10, 24), (10, 18), (10, 24), (10, 96), (10, 24), (10, 24), (10, 24), (10, 6), (10, 48), (10, 8), (10, 24), (10, 24), (10, 24), (10, 9), (7, 14), (6, 2), (15, 6), (10, 48), (10, 48), (10, 48), (10, 48), (10, 48), (10, 48), (10, 6), (6, 2), (15, 4), (10, 120), (10, 120), (10, 120), (10, 120), (10, 4), (1, 7), (2, 1), (10, 24), (2, 1), (10, 24), (14, 6), (4, 2), (10, 8), (4, 2), (10, 8), (4, 2), (10, 8), (4, 2), (10, 8), (4, 2), (10, 8), (4, 2), (10, 8), (4, 2), (10, 8), (3, 7), (10, 8), (10, 12), (10, 12), (5, 17), (10, 24), (10, 8), (15, 9), (10, 8), (10, 8), (10, 8), (10, 8), (10, 8), (10, 8), (10, 8), (10, 8), (10, 8), (10, 8), (10, 8), (10, 24), (10, 8), (10, 12), (10, 6), (0, 19), (10, 6), (10, 6), (10, 6), (11, 6), (10, 8), (10, 8), (10, 8), (13, 8), (10, 24), (10, 24), (10, 24), (10, 24), (10, 24), (10, 24), (10, 24), (0, 19), (10, 6), (10, 6), (10, 6), (11, 6), (10, 8), (10, 8), (10, 8), (13, 8), (10, 24), (10, 24), (10, 24), (10, 24), (10, 24), (10, 24), (10, 24), (8, 48), (10, 6), (10, 6), (10, 288), (10, 48), (10, 4), (12, 480), (10, 18), (10, 24), (10, 96), (10, 24), (10, 24), (10, 18), (10, 24), (10, 96), (10, 24), (10, 24), (10, 24), (10, 6), (10, 48), (10, 8), (10, 24), (10, 24), (10, 24), (10, 9), (10, 64), (10, 64), (10, 64), (10, 64)]
def z_kd (a : Nat) : Nat × Nat := match z_kdl[a]? with
  | some q => q
  | none => (99, 0)
/-- each method: its answer (0 int, 1 long, 2 none), its class, its arguments (the object too), its places -/
def z_mtl : List (Nat × Nat × Nat × Nat) := [(2, 0, 1, 1), (2, 0, 1, 1), (0, 0, 2, 2), (0, 0, 2, 2), (0, 0, 2, 2), (0, 0, 3, 3), (0, 0, 3, 3), (0, 0, 3, 3), (2, 0, 4, 4), (2, 0, 4, 4), (2, 0, 4, 5), (2, 0, 4, 6), (2, 0, 4, 5), (0, 0, 3, 4), (0, 0, 3, 3), (0, 0, 3, 6), (0, 0, 4, 6), (0, 0, 2, 2), (2, 1, 1, 1), (0, 1, 4, 6), (0, 1, 1, 1), (0, 1, 2, 2), (0, 1, 1, 2), (0, 1, 3, 3), (0, 1, 3, 4), (0, 1, 1, 1), (0, 1, 1, 4), (0, 1, 1, 4), (0, 1, 1, 3), (0, 1, 1, 3), (0, 1, 1, 3), (2, 2, 1, 2), (2, 2, 1, 2), (2, 2, 3, 4), (0, 2, 3, 3), (0, 2, 3, 5), (0, 2, 4, 4), (0, 2, 3, 5), (0, 2, 2, 4), (0, 2, 3, 3), (0, 2, 2, 4), (0, 2, 3, 6), (0, 2, 3, 6), (0, 2, 3, 5), (2, 3, 1, 1), (2, 3, 4, 8), (0, 3, 2, 2), (0, 3, 2, 4), (0, 3, 2, 6), (0, 3, 2, 5), (0, 3, 2, 5), (0, 3, 3, 4), (0, 3, 3, 4), (0, 3, 2, 2), (0, 3, 3, 4), (2, 3, 3, 5), (2, 3, 2, 3), (2, 4, 1, 1), (0, 4, 1, 1), (0, 4, 2, 2), (2, 4, 2, 3), (0, 4, 2, 6), (2, 4, 3, 4), (2, 5, 1, 1), (2, 5, 4, 5), (2, 5, 3, 3), (2, 5, 2, 2), (0, 5, 2, 2), (2, 5, 2, 9), (2, 5, 2, 4), (0, 5, 2, 9), (0, 5, 1, 3), (0, 5, 2, 3), (0, 5, 2, 7), (0, 5, 2, 3), (2, 5, 4, 4), (2, 5, 3, 3), (2, 5, 3, 3), (2, 6, 3, 4), (0, 6, 2, 2), (0, 6, 2, 2), (0, 6, 3, 3), (0, 6, 4, 4), (2, 6, 4, 5), (0, 6, 1, 3), (1, 6, 2, 7), (2, 7, 1, 2), (0, 7, 3, 3), (0, 7, 4, 5), (0, 7, 3, 4), (0, 7, 2, 2), (0, 7, 6, 6), (0, 7, 2, 6), (0, 7, 3, 3), (0, 7, 4, 6), (0, 7, 2, 2), (0, 7, 2, 4), (0, 7, 3, 3), (0, 7, 3, 3), (0, 7, 3, 3), (0, 7, 3, 4), (0, 7, 4, 4), (0, 7, 4, 4), (0, 7, 3, 4), (0, 7, 1, 1), (0, 7, 2, 2), (0, 7, 3, 5), (0, 7, 3, 5), (0, 7, 2, 2), (0, 7, 2, 3), (0, 7, 4, 5), (0, 7, 3, 4), (0, 7, 2, 2), (0, 7, 2, 6), (0, 7, 1, 2), (0, 7, 2, 3), (0, 7, 1, 2), (0, 7, 1, 2), (0, 7, 1, 4), (0, 7, 1, 4), (0, 7, 1, 5), (0, 7, 1, 1), (0, 7, 2, 2), (0, 7, 1, 1), (0, 7, 2, 2), (1, 7, 1, 5), (0, 7, 2, 2), (0, 7, 1, 1), (0, 7, 3, 3), (0, 7, 2, 5), (0, 7, 2, 5), (0, 7, 2, 3), (0, 7, 2, 3), (2, 7, 2, 4), (1, 7, 2, 7), (2, 8, 1, 2), (0, 8, 3, 3), (0, 8, 2, 2), (0, 8, 1, 3), (0, 8, 2, 2), (0, 8, 2, 2), (0, 8, 1, 1), (0, 8, 2, 2), (0, 8, 3, 3), (0, 8, 1, 1), (0, 8, 1, 1), (0, 8, 3, 3), (0, 8, 3, 4), (0, 8, 4, 5), (0, 8, 3, 3), (0, 8, 2, 2), (0, 8, 6, 7), (0, 8, 2, 5), (0, 8, 1, 1), (0, 8, 3, 4), (0, 8, 4, 5), (0, 8, 3, 3), (0, 8, 3, 4), (0, 8, 4, 5), (0, 8, 4, 6), (0, 8, 2, 3), (0, 8, 2, 3), (0, 8, 2, 7), (0, 8, 3, 4), (0, 8, 2, 3), (0, 8, 2, 3), (0, 8, 2, 2), (0, 8, 2, 2), (0, 8, 2, 2), (0, 8, 2, 3), (0, 8, 2, 2), (0, 8, 2, 2), (0, 8, 2, 2), (0, 8, 2, 2), (0, 8, 2, 2), (0, 8, 2, 2), (0, 8, 2, 2), (0, 8, 2, 2), (0, 8, 2, 2), (0, 8, 2, 2), (0, 8, 2, 2), (0, 8, 4, 6), (0, 8, 4, 6), (0, 8, 3, 3), (0, 8, 3, 5), (0, 8, 3, 3), (0, 8, 3, 5), (0, 8, 3, 3), (0, 8, 3, 4), (0, 8, 4, 4), (0, 8, 4, 4), (0, 8, 2, 2), (0, 8, 2, 2), (0, 8, 3, 3), (0, 8, 3, 4), (0, 8, 3, 5), (0, 8, 4, 6), (0, 8, 3, 5), (0, 8, 3, 6), (0, 8, 3, 7), (0, 8, 1, 3), (0, 8, 1, 1), (0, 8, 3, 3), (0, 8, 2, 5), (0, 8, 2, 2), (0, 8, 3, 5), (0, 8, 3, 5), (0, 8, 2, 3), (0, 8, 2, 4), (0, 8, 1, 1), (0, 8, 4, 8), (0, 8, 3, 3), (0, 8, 3, 4), (0, 8, 3, 5), (0, 8, 4, 7), (0, 8, 4, 8), (0, 8, 4, 5), (0, 8, 2, 4), (0, 8, 3, 7), (2, 8, 2, 4), (0, 8, 2, 3), (2, 8, 2, 3), (2, 8, 2, 3), (2, 8, 2, 8), (0, 8, 2, 7), (0, 8, 3, 5), (0, 8, 2, 2), (0, 8, 2, 4), (0, 8, 3, 6), (0, 8, 2, 7), (0, 8, 1, 3), (0, 8, 1, 3), (0, 8, 1, 3), (2, 8, 2, 4), (2, 8, 2, 4), (0, 8, 2, 3), (0, 8, 1, 1), (0, 8, 1, 1), (0, 8, 2, 5), (0, 8, 1, 1), (0, 8, 1, 1), (0, 8, 1, 5), (0, 8, 2, 4), (0, 8, 1, 4), (0, 8, 1, 4), (0, 8, 2, 4), (0, 8, 2, 2), (2, 8, 2, 3), (2, 8, 1, 3), (1, 8, 1, 3), (0, 9, 1, 19), (0, 9, 2, 2), (0, 9, 3, 3), (0, 9, 3, 3), (2, 9, 8, 13), (0, 9, 3, 7)]
def z_mt (x : Nat) : Nat × Nat × Nat × Nat := match z_mtl[x]? with
  | some q => q
  | none => (9, 99, 0, 0)
abbrev z_mr (x : Nat) : Nat := (z_mt x).1
abbrev z_mc (x : Nat) : Nat := (z_mt x).2.1
abbrev z_mn (x : Nat) : Nat := (z_mt x).2.2.1
abbrev z_ml (x : Nat) : Nat := (z_mt x).2.2.2
def z_sn (x y : Nat) : Int := match y with
  | 0 => (x : Int)
  | _ => -(x : Int)
/-- the kind of each class's fields: 0 int, 1 cell, 2 long, 3 boolean -/
def z_fkl : List (List Nat) := [[0, 0, 0, 0, 1, 1, 1, 1, 1, 1, 1, 1, 1, 1, 1, 1, 1, 1, 1], [1, 0, 0, 0, 0, 0, 1], [1], [1, 1, 1, 0, 1, 1, 1], [0, 1], [0, 1, 1, 0, 0, 3, 0, 0, 0, 0, 1, 1, 1, 1, 1, 1, 1], [1, 1], [1, 1, 1, 1, 1, 1, 1, 1, 1, 1, 1, 1, 0, 0], [0, 1, 0, 1, 1, 1, 1, 1, 0, 0, 0, 0, 0, 0, 1, 1, 1, 1, 1, 0, 0, 0, 0, 0, 0, 0, 0, 1, 1, 1, 1, 1, 1, 1, 1, 1, 1, 1, 1, 0, 0, 3, 0, 0, 0, 0, 1, 2]]
def z_fk (c k : Nat) : Nat := match z_fkl[c]? with
  | some l => l.getD k 9
  | none => 9
/-- the methods that the machine has -/
def z_lkl : List Bool := [true, true, true, true, false, false, false, false, true, true, true, true, true, true, true, true, true, true, true, true, true, true, true, true, true, true, true, true, true, true, true, true, true, true, true, true, true, true, true, true, true, true, true, true, true, true, true, true, true, true, true, true, true, true, true, true, true, true, false, false, true, true, true, true, true, true, true, true, true, true, true, true, true, true, true, true, true, true, true, true, true, true, false, true, false, false, true, false, false, false, false, false, false, true, true, true, true, false, false, false, true, false, true, false, true, true, false, false, true, true, true, false, true, true, true, true, true, true, true, true, false, true, false, false, false, false, true, true, false, true, false, true, true, true, false, false, false, false, false, false, false, false, false, false, false, false, false, false, false, false, false, false, false, false, false, false, false, false, false, false, false, false, false, false, false, false, false, false, false, false, false, false, false, false, false, false, false, false, false, false, false, false, false, false, false, false, false, false, false, false, false, false, false, false, false, false, false, false, false, false, false, false, false, false, false, false, false, false, false, false, false, false, false, false, false, false, false, false, false, false, false, false, false, false, false, false, false, false, false, false, false, false, false, false, false, false, false, false, false, false, false, false, false, false, false, false, false, false, false, false, false, true, true, true, true, true]
def z_lk (x : Nat) : Bool := match z_lkl[x]? with
  | some b => b
  | none => false
end
section
/-! ONE INSTRUCTION, in the style of what goes on behind it (K), with the calls' answers (C). Beside the instruction stand three numbers x, y, z: what it links to.
getfield, putfield: class, field, kind of the field (0 int, 1 cell, 2 long, 3 boolean); rows: the row's kind (1: the script); calls: method, arguments (the object too), kind (0 virtual, 1 static, 2 constructor, 10 max, 11 min, 12 arraycopy, 13 Object's constructor) -/
def z_pi (st : List z_V) (f : Int32 → List z_V → z_O) : z_O := match st with
  | .inl x :: r => f x r
  | _ => none
def z_pr (st : List z_V) (f : Nat → List z_V → z_O) : z_O := match st with
  | .inr (.inl x) :: r => f x r
  | _ => none
def z_pl (st : List z_V) (f : Int64 → List z_V → z_O) : z_O := match st with
  | .inr (.inr x) :: r => f x r
  | _ => none
/-- a guard that its own text decides -/
def z_sg (b : Bool) (x : z_O) : z_O := match b with
  | true => x
  | false => none
def z_ob (h : z_Hp) (a c : Nat) : Bool := Nat.beq (w_kd a).1 c && Nat.blt a (h.1 + 2)
def z_in (i : Int32) (n : Nat) : Bool := !(decide (i < 0)) && Nat.blt i.toNatClampNeg n
def z_ar (h : z_Hp) (a t : Nat) (i : Int32) : Bool := Nat.beq (w_kd a).1 t && Nat.blt a (h.1 + 2) && z_in i (w_kd a).2
def z_bo (v : Int32) : Bool := decide (v = 0) || decide (v = 1)
def z_i0 (K : z_K) (ins : Jvm.ClassFile.Instr) (x y : Nat) (pc : Nat) (ls : z_Ls) (st : List z_V) (h : z_Hp) : z_O := match ins with
  | .iload k => z_ldi ls k (fun v => K (pc + 2) ls (z_vi v :: st) h)
  | .iload_n k => z_ldi ls k.val (fun v => K (pc + 1) ls (z_vi v :: st) h)
  | .aload_n k => z_ldr ls k.val (fun v => K (pc + 1) ls (z_vr v :: st) h)
  | .aload k => z_ldr ls k (fun v => K (pc + 2) ls (z_vr v :: st) h)
  | .lload_n k => z_ldl ls k.val (fun v => K (pc + 1) ls (z_vl v :: st) h)
  | .istore k => z_pi st (fun v r => z_sg (z_sk ls k) (K (pc + 2) (ls.set k (some (z_vi v))) r h))
  | .istore_n k => z_pi st (fun v r => z_sg (z_sk ls k.val) (K (pc + 1) (ls.set k.val (some (z_vi v))) r h))
  | .astore_n k => z_pr st (fun v r => z_sg (z_sk ls k.val) (K (pc + 1) (ls.set k.val (some (z_vr v))) r h))
  | .astore k => z_pr st (fun v r => z_sg (z_sk ls k) (K (pc + 2) (ls.set k (some (z_vr v))) r h))
  | .lstore_n k => z_pl st (fun v r => z_sg (z_sk ls k.val && Nat.blt (k.val + 1) ls.length) (K (pc + 1) ((ls.set k.val (some (z_vl v))).set (k.val + 1) none) r h))
  | .iinc k n => z_ldi ls k (fun v => z_sg (z_sk ls k) (K (pc + 3) (ls.set k (some (z_vi (v + Int32.ofInt n)))) st h))
  | .iconst n => K (pc + 1) ls (z_vi (Int32.ofInt n) :: st) h
  | .bipush n => K (pc + 2) ls (z_vi (Int8.ofInt n).toInt32 :: st) h
  | .sipush n => K (pc + 3) ls (z_vi (Int16.ofInt n).toInt32 :: st) h
  | .lconst n => K (pc + 1) ls (z_vl (Int64.ofNat n.val) :: st) h
  | .ldc _ => K (pc + 2) ls (z_vi (Int32.ofInt (z_sn x y)) :: st) h
  | .ldc2_w _ => K (pc + 3) ls (z_vl (Int64.ofInt (z_sn x y)) :: st) h
  | .pop => match st with
    | v :: r => z_sg (Nat.beq (z_cat v) 1) (K (pc + 1) ls r h)
    | [] => none
  | .dup => match st with
    | v :: r => z_sg (Nat.beq (z_cat v) 1) (K (pc + 1) ls (v :: v :: r) h)
    | [] => none
  | .dup2 => match st with
    | .inr (.inr v) :: r => K (pc + 1) ls (z_vl v :: z_vl v :: r) h
    | v :: w :: r => z_sg (Nat.beq (z_cat v) 1 && Nat.beq (z_cat w) 1) (K (pc + 1) ls (v :: w :: v :: w :: r) h)
    | _ => none
  | _ => none
def z_i1 (K : z_K) (ins : Jvm.ClassFile.Instr) (pc : Nat) (ls : z_Ls) (st : List z_V) (h : z_Hp) : z_O := match ins with
  | .iadd => z_pi st (fun w r => z_pi r (fun v r => K (pc + 1) ls (z_vi (v + w) :: r) h))
  | .isub => z_pi st (fun w r => z_pi r (fun v r => K (pc + 1) ls (z_vi (v - w) :: r) h))
  | .imul => z_pi st (fun w r => z_pi r (fun v r => K (pc + 1) ls (z_vi (v * w) :: r) h))
  | .iand => z_pi st (fun w r => z_pi r (fun v r => K (pc + 1) ls (z_vi (v &&& w) :: r) h))
  | .ior => z_pi st (fun w r => z_pi r (fun v r => K (pc + 1) ls (z_vi (v ||| w) :: r) h))
  | .ixor => z_pi st (fun w r => z_pi r (fun v r => K (pc + 1) ls (z_vi (v ^^^ w) :: r) h))
  | .ishl => z_pi st (fun w r => z_pi r (fun v r => K (pc + 1) ls (z_vi (v <<< (w &&& 31)) :: r) h))
  | .ishr => z_pi st (fun w r => z_pi r (fun v r => K (pc + 1) ls (z_vi (v >>> (w &&& 31)) :: r) h))
  | .idiv => z_pi st (fun w r => z_pi r (fun v r => z_gd (!(decide (w = 0))) (K (pc + 1) ls (z_vi (v / w) :: r) h)))
  | .irem => z_pi st (fun w r => z_pi r (fun v r => z_gd (!(decide (w = 0))) (K (pc + 1) ls (z_vi (v - v / w * w) :: r) h)))
  | .ineg => z_pi st (fun v r => K (pc + 1) ls (z_vi (-v) :: r) h)
  | .i2l => z_pi st (fun v r => K (pc + 1) ls (z_vl v.toInt64 :: r) h)
  | .i2b => z_pi st (fun v r => K (pc + 1) ls (z_vi v.toInt8.toInt32 :: r) h)
  | .l2i => z_pl st (fun v r => K (pc + 1) ls (z_vi v.toInt32 :: r) h)
  | .ladd => z_pl st (fun w r => z_pl r (fun v r => K (pc + 1) ls (z_vl (v + w) :: r) h))
  | .lmul => z_pl st (fun w r => z_pl r (fun v r => K (pc + 1) ls (z_vl (v * w) :: r) h))
  | .land => z_pl st (fun w r => z_pl r (fun v r => K (pc + 1) ls (z_vl (v &&& w) :: r) h))
  | .lor => z_pl st (fun w r => z_pl r (fun v r => K (pc + 1) ls (z_vl (v ||| w) :: r) h))
  | .ldiv => z_pl st (fun w r => z_pl r (fun v r => z_gd (!(decide (w = 0))) (K (pc + 1) ls (z_vl (v / w) :: r) h)))
  | .lshl => z_pi st (fun w r => z_pl r (fun v r => K (pc + 1) ls (z_vl (v <<< (w.toInt64 &&& 63)) :: r) h))
  | .lshr => z_pi st (fun w r => z_pl r (fun v r => K (pc + 1) ls (z_vl (v >>> (w.toInt64 &&& 63)) :: r) h))
  | .lcmp => z_pl st (fun w r => z_pl r (fun v r => K (pc + 1) ls (z_vi (lg_cmp v w) :: r) h))
  | _ => none
def z_br (c : Jvm.ClassFile.Cond) (x y : Int32) (A B : z_O) : z_O := match c with
  | .eq => if x = y then A else B
  | .ne => if x = y then B else A
  | .lt => if x < y then A else B
  | .ge => if x < y then B else A
  | .gt => if y < x then A else B
  | .le => if y < x then B else A
def z_tg (pc : Nat) (o : Int) : Nat := ((pc : Int) + o).toNat
def z_i2 (K : z_K) (ins : Jvm.ClassFile.Instr) (z : Nat) (pc : Nat) (ls : z_Ls) (st : List z_V) (h : z_Hp) : z_O := match ins with
  | .if_icmp c o => z_pi st (fun w r => z_pi r (fun v r => z_br c v w (K (z_tg pc o) ls r h) (K (pc + 3) ls r h)))
  | .ifCond c o => z_pi st (fun v r => z_br c v 0 (K (z_tg pc o) ls r h) (K (pc + 3) ls r h))
  | .goto o => K (z_tg pc o) ls st h
  | .tableswitch d lo _ os => z_pi st (fun v r => z_sw (fun p => K p ls r h) pc v d (z_tp lo os.toList))
  | .lookupswitch d ps => z_pi st (fun v r => z_sw (fun p => K p ls r h) pc v d ps.toList)
  | .ireturn => match st with
    | [.inl v] => match z with
      | 3 => z_gd (z_bo v) (some (some (z_vi v), h))
      | _ => some (some (z_vi v), h)
    | _ => none
  | .lreturn => match st with
    | [.inr (.inr v)] => some (some (z_vl v), h)
    | _ => none
  | .return_ => match st with
    | [] => some (none, h)
    | _ => none
  | _ => none
def z_gv (h : z_Hp) (a y z : Nat) : z_V := match z with
  | 1 => z_vr (z_F h a y)
  | 2 => z_vl (z_J h a y)
  | _ => z_vi (z_I h a y)
def z_i3 (sc : z_Sc) (K : z_K) (ins : Jvm.ClassFile.Instr) (x y z : Nat) (pc : Nat) (ls : z_Ls) (st : List z_V) (h : z_Hp) : z_O := match ins with
  | .getfield _ => z_pr st (fun a r => z_gd (z_ob h a x) (K (pc + 3) ls (z_gv h a y z :: r) h))
  | .putfield _ => match z with
    | 0 => z_pi st (fun v r => z_pr r (fun a r => z_gd (z_ob h a x) (K (pc + 3) ls r (z_sI h a y v))))
    | 1 => z_pr st (fun v r => z_pr r (fun a r => z_gd (z_ob h a x) (K (pc + 3) ls r (z_sF h a y v))))
    | 2 => z_pl st (fun v r => z_pr r (fun a r => z_gd (z_ob h a x) (K (pc + 3) ls r (z_sJ h a y v))))
    | _ => z_pi st (fun v r => z_pr r (fun a r => z_gd (z_ob h a x && z_bo v) (K (pc + 3) ls r (z_sI h a y v))))
  | .iaload => match x with
    | 1 => z_pi st (fun i r => z_pr r (fun a r => z_gd (Nat.beq a 1 && z_in i sc.1) (K (pc + 1) ls (z_vi (sc.2 i.toNatClampNeg) :: r) h)))
    | _ => z_pi st (fun i r => z_pr r (fun a r => z_gd (z_ar h a 10 i) (K (pc + 1) ls (z_vi (z_I h a i.toNatClampNeg) :: r) h)))
  | .baload => z_pi st (fun i r => z_pr r (fun a r => z_gd (z_ar h a x i) (K (pc + 1) ls (z_vi (z_I h a i.toNatClampNeg) :: r) h)))
  | .laload => z_pi st (fun i r => z_pr r (fun a r => z_gd (z_ar h a 11 i) (K (pc + 1) ls (z_vl (z_J h a i.toNatClampNeg) :: r) h)))
  | .aaload => z_pi st (fun i r => z_pr r (fun a r => z_gd (z_ar h a x i) (K (pc + 1) ls (z_vr (z_F h a i.toNatClampNeg) :: r) h)))
  | .iastore => z_pi st (fun v r => z_pi r (fun i r => z_pr r (fun a r => z_gd (z_ar h a 10 i) (K (pc + 1) ls r (z_sI h a i.toNatClampNeg v)))))
  | .bastore => match x with
    | 12 => z_pi st (fun v r => z_pi r (fun i r => z_pr r (fun a r => z_gd (z_ar h a 12 i) (K (pc + 1) ls r (z_sI h a i.toNatClampNeg v.toInt8.toInt32)))))
    | _ => z_pi st (fun v r => z_pi r (fun i r => z_pr r (fun a r => z_gd (z_ar h a 13 i && z_bo v) (K (pc + 1) ls r (z_sI h a i.toNatClampNeg v)))))
  | .lastore => z_pl st (fun v r => z_pi r (fun i r => z_pr r (fun a r => z_gd (z_ar h a 11 i) (K (pc + 1) ls r (z_sJ h a i.toNatClampNeg v)))))
  | .aastore => z_pr st (fun v r => z_pi r (fun i r => z_pr r (fun a r => z_gd (z_ar h a 14 i && z_ob h v 4) (K (pc + 1) ls r (z_sF h a i.toNatClampNeg v)))))
  | .arraylength => match x with
    | 1 => z_pr st (fun a r => z_gd (Nat.beq a 1) (K (pc + 1) ls (z_vi (Int32.ofNat sc.1) :: r) h))
    | _ => z_pr st (fun a r => z_gd (Nat.beq (w_kd a).1 x && Nat.blt a (h.1 + 2)) (K (pc + 1) ls (z_vi (Int32.ofNat (w_kd a).2) :: r) h))
  | .new _ => z_gd (Nat.beq (w_kd (h.1 + 2)).1 x) (K (pc + 3) ls (z_vr (h.1 + 2) :: st) (z_nw h))
  | .newarray _ => z_pi st (fun n r => z_gd (Nat.beq (w_kd (h.1 + 2)).1 x && (!(decide (n < 0)) && Nat.beq (w_kd (h.1 + 2)).2 n.toNatClampNeg)) (K (pc + 2) ls (z_vr (h.1 + 2) :: r) (z_nw h)))
  | .anewarray _ => z_pi st (fun n r => z_gd (Nat.beq (w_kd (h.1 + 2)).1 14 && (!(decide (n < 0)) && Nat.beq (w_kd (h.1 + 2)).2 n.toNatClampNeg)) (K (pc + 3) ls (z_vr (h.1 + 2) :: r) (z_nw h)))
  | .multianewarray _ _ => z_pi st (fun k r => z_pi r (fun n r => z_gd ((Nat.beq (w_kd (h.1 + 2)).1 15 && (!(decide (n < 0)) && Nat.beq (w_kd (h.1 + 2)).2 n.toNatClampNeg)) && (!(decide (k < 0)) && (List.range n.toNatClampNeg).all (fun i => Nat.beq (w_kd (h.1 + 3 + i)).1 10 && Nat.beq (w_kd (h.1 + 3 + i)).2 k.toNatClampNeg))) (K (pc + 4) ls (z_vr (h.1 + 2) :: r) (z_nwm h n.toNatClampNeg))))
  | _ => none
/-- a call's answer by its kind: 0 int, 1 long, 2 nothing -/
def z_rt (q : Nat) (o : z_O) (K : z_K) (pc : Nat) (ls : z_Ls) (r : List z_V) : z_O := match q with
  | 0 => z_ci o (fun v h => K (pc + 3) ls (z_vi v :: r) h)
  | 1 => z_cl o (fun v h => K (pc + 3) ls (z_vl v :: r) h)
  | _ => z_cv o (fun h => K (pc + 3) ls r h)
def z_rc (h : z_Hp) (as : List z_V) (c : Nat) (x : z_O) : z_O := match as with
  | .inr (.inl a) :: _ => z_gd (z_ob h a c) x
  | _ => none
def z_i4 (C : z_C) (K : z_K) (x y z : Nat) (pc : Nat) (ls : z_Ls) (st : List z_V) (h : z_Hp) : z_O := match z with
  | 1 => z_sg (Nat.ble y st.length && Nat.ble (z_cats (st.drop y)) 8) (z_rt (z_mr x) (C x (st.take y).reverse h) K pc ls (st.drop y))
  | 10 => z_pi st (fun w r => z_pi r (fun v r => z_sg (Nat.ble (z_cats r) 8) (K (pc + 3) ls (z_vi (if v < w then w else v) :: r) h)))
  | 11 => z_pi st (fun w r => z_pi r (fun v r => z_sg (Nat.ble (z_cats r) 8) (K (pc + 3) ls (z_vi (if w < v then w else v) :: r) h)))
  | 12 => z_pi st (fun n r => z_pi r (fun dp r => z_pr r (fun b r => z_pi r (fun sp r => z_pr r (fun a r => z_sg (Nat.ble (z_cats r) 8) (z_gd ((Nat.beq (w_kd a).1 10 && Nat.blt a (h.1 + 2)) && (Nat.beq (w_kd b).1 10 && Nat.blt b (h.1 + 2)) && (!(decide (sp < 0)) && !(decide (dp < 0)) && !(decide (n < 0))) && (Nat.ble (sp.toNatClampNeg + n.toNatClampNeg) (w_kd a).2 && Nat.ble (dp.toNatClampNeg + n.toNatClampNeg) (w_kd b).2)) (K (pc + 3) ls r (z_cpI h a sp.toNatClampNeg b dp.toNatClampNeg n.toNatClampNeg))))))))
  | 13 => z_pr st (fun a r => z_sg (Nat.ble (z_cats r) 8) (z_gd (!(Nat.beq a 0)) (K (pc + 3) ls r h)))
  | _ => z_sg (Nat.ble y st.length && Nat.ble (z_cats (st.drop y)) 8) (z_rc h (st.take y).reverse (z_mc x) (z_rt (z_mr x) (C x (st.take y).reverse h) K pc ls (st.drop y)))
/-- a row of the program: group, instruction, what it links to (x, y, z), where its word stands in the tables (t, i) -/
abbrev z_En : Type := Nat × Jvm.ClassFile.Instr × Nat × Nat × Nat × Nat × Nat
def z_st (sc : z_Sc) (C : z_C) (K : z_K) (en : Option z_En) (pc : Nat) (ls : z_Ls) (st : List z_V) (h : z_Hp) : z_O := match en with
  | some (g, ins, x, y, z, _, _) => match g with
    | 0 => z_i0 K ins x y pc ls st h
    | 1 => z_i1 K ins pc ls st h
    | 2 => z_i2 K ins z pc ls st h
    | 3 => z_i3 sc K ins x y z pc ls st h
    | _ => z_i4 C K x y z pc ls st h
  | none => none
end
section
/-! THE METHODS as a table, written by wip/p42/gen/names.py: name, code, answer; kind (0 virtual, 1 static, 2 constructor); where its words stand: code, instanceMethod or static, selects, initialized -/
def z_mY0 : List (MethodName × ByteArray × Option FieldType) := [(yX0_init, cX0_init, none), (yX0_clear, cX0_clear, none), (yX0_hasPart, cX0_hasPart, (some .boolean)), (yX0_hasReader, cX0_hasReader, (some .boolean)), (yL_law, cL_law, none), (yL_law, cL_law, none), (yL_law, cL_law, none), (yL_law, cL_law, none), (yX0_addPart, cX0_addPart, none), (yX0_addReader, cX0_addReader, none), (yX0_addWant, cX0_addWant, none), (yX0_forbid, cX0_forbid, none), (yX0_cover, cX0_cover, none), (yX0_wantOf, cX0_wantOf, (some .int)), (yX0_worthAt, cX0_worthAt, (some .int)), (yX0_coveredFrom, cX0_coveredFrom, (some .int)), (yX0_comesAfter, cX0_comesAfter, (some .boolean)), (yX0_latestBegin, cX0_latestBegin, (some .int)), (yX1_init, cX1_init, none), (yX1_take, cX1_take, (some .int)), (yX1_look, cX1_look, (some .int)), (yX1_takeSign, cX1_takeSign, (some .boolean)), (yX1_figure, cX1_figure, (some .int)), (yX1_takeFigure, cX1_takeFigure, (some .boolean)), (yX1_takeMinute, cX1_takeMinute, (some .boolean)), (yX1_takeLast, cX1_takeLast, (some .boolean)), (yX1_takePart, cX1_takePart, (some .boolean)), (yX1_takeReader, cX1_takeReader, (some .boolean)), (yX1_takeWant, cX1_takeWant, (some .boolean)), (yX1_takeNot, cX1_takeNot, (some .boolean)), (yX1_takeCushion, cX1_takeCushion, (some .boolean)), (yX2_init, cX2_init, none), (yX2_clear, cX2_clear, none), (yX2_become, cX2_become, none), (yX2_isBegunAhead, cX2_isBegunAhead, (some .boolean)), (yX2_begunAhead, cX2_begunAhead, (some .int)), (yX2_isReadIn, cX2_isReadIn, (some .boolean)), (yX2_lossOf, cX2_lossOf, (some .int)), (yX2_lossOfAll, cX2_lossOfAll, (some .int)), (yX2_lossBy, cX2_lossBy, (some .int)), (yX2_firstWrong, cX2_firstWrong, (some .int)), (yX2_firstWrongOf, cX2_firstWrongOf, (some .int)), (yX2_isCrowded, cX2_isCrowded, (some .boolean)), (yX2_isInOrder, cX2_isInOrder, (some .boolean)), (yX3_init, cX3_init, none), (yX3_go, cX3_go, none), (yX3_pick, cX3_pick, (some .int)), (yX3_pickByCard, cX3_pickByCard, (some .int)), (yX3_pickNext, cX3_pickNext, (some .int)), (yX3_pickDear, cX3_pickDear, (some .int)), (yX3_pickShort, cX3_pickShort, (some .int)), (yX3_firstOf, cX3_firstOf, (some .int)), (yX3_mayBegin, cX3_mayBegin, (some .boolean)), (yX3_isThrough, cX3_isThrough, (some .boolean)), (yX3_freeCopy, cX3_freeCopy, (some .int)), (yX3_begin, cX3_begin, none), (yX3_letGo, cX3_letGo, none), (yX4_init, cX4_init, none), (yL_law, cL_law, none), (yL_law, cL_law, none)]
def z_mY1 : List (MethodName × ByteArray × Option FieldType) := [(yX4_beginCard, cX4_beginCard, none), (yX4_nextCard, cX4_nextCard, (some .boolean)), (yX4_swap, cX4_swap, none), (yX5_init, cX5_init, none), (yX5_start, cX5_start, none), (yX5_keep, cX5_keep, none), (yX5_add, cX5_add, none), (yX5_go, cX5_go, (some .int)), (yX5_grow, cX5_grow, none), (yX5_weigh, cX5_weigh, none), (yX5_hope, cX5_hope, (some .int)), (yX5_worst, cX5_worst, (some .int)), (yX5_isNext, cX5_isNext, (some .boolean)), (yX5_earliest, cX5_earliest, (some .int)), (yX5_firstCopy, cX5_firstCopy, (some .int)), (yX5_place, cX5_place, none), (yX5_takeBack, cX5_takeBack, none), (yX5_miss, cX5_miss, none), (yX6_init, cX6_init, none), (yX6_has, cX6_has, (some .boolean)), (yX6_isMissing, cX6_isMissing, (some .boolean)), (yX6_lackAt, cX6_lackAt, (some .int)), (yL_law, cL_law, none), (yX6_begin, cX6_begin, none), (yL_law, cL_law, none), (yL_law, cL_law, none), (yX7_init, cX7_init, none), (yL_law, cL_law, none), (yL_law, cL_law, none), (yL_law, cL_law, none), (yL_law, cL_law, none), (yL_law, cL_law, none), (yL_law, cL_law, none), (yX7_text, cX7_text, (some .int)), (yX7_put, cX7_put, (some .int)), (yX7_fault, cX7_fault, (some .int)), (yX7_house, cX7_house, (some .int)), (yL_law, cL_law, none), (yL_law, cL_law, none), (yL_law, cL_law, none), (yX7_copies, cX7_copies, (some .int)), (yL_law, cL_law, none), (yX7_late, cX7_late, (some .int)), (yL_law, cL_law, none), (yX7_judge, cX7_judge, (some .int)), (yX7_missed, cX7_missed, (some .int)), (yL_law, cL_law, none), (yL_law, cL_law, none), (yX7_image, cX7_image, (some .int)), (yX7_on, cX7_on, (some .int)), (yX7_rule, cX7_rule, (some .int)), (yL_law, cL_law, none), (yX7_run, cX7_run, (some .int)), (yX7_best, cX7_best, (some .int)), (yX7_least, cX7_least, (some .int)), (yX7_mend, cX7_mend, (some .int)), (yX7_soon, cX7_soon, (some .int)), (yX7_even, cX7_even, (some .int)), (yX7_bound, cX7_bound, (some .int)), (yX7_quarrel, cX7_quarrel, (some .int))]
def z_mY2 : List (MethodName × ByteArray × Option FieldType) := [(yL_law, cL_law, none), (yX7_asked, cX7_asked, (some .int)), (yL_law, cL_law, none), (yL_law, cL_law, none), (yL_law, cL_law, none), (yL_law, cL_law, none), (yX7_found, cX7_found, (some .int)), (yX7_isBeginning, cX7_isBeginning, (some .boolean)), (yL_law, cL_law, none), (yX7_lackOfCard, cX7_lackOfCard, (some .int)), (yL_law, cL_law, none), (yX7_searchAll, cX7_searchAll, (some .int)), (yX7_canAllHaveAll, cX7_canAllHaveAll, (some .boolean)), (yX7_keepAhead, cX7_keepAhead, none), (yL_law, cL_law, none), (yL_law, cL_law, none), (yL_law, cL_law, none), (yL_law, cL_law, none), (yL_law, cL_law, none), (yL_law, cL_law, none), (yL_law, cL_law, none), (yL_law, cL_law, none), (yL_law, cL_law, none), (yL_law, cL_law, none), (yL_law, cL_law, none), (yL_law, cL_law, none), (yL_law, cL_law, none), (yL_law, cL_law, none), (yL_law, cL_law, none), (yL_law, cL_law, none), (yL_law, cL_law, none), (yL_law, cL_law, none), (yL_law, cL_law, none), (yL_law, cL_law, none), (yL_law, cL_law, none), (yL_law, cL_law, none), (yL_law, cL_law, none), (yL_law, cL_law, none), (yL_law, cL_law, none), (yL_law, cL_law, none), (yL_law, cL_law, none), (yL_law, cL_law, none), (yL_law, cL_law, none), (yL_law, cL_law, none), (yL_law, cL_law, none), (yL_law, cL_law, none), (yL_law, cL_law, none), (yL_law, cL_law, none), (yL_law, cL_law, none), (yL_law, cL_law, none), (yL_law, cL_law, none), (yL_law, cL_law, none), (yL_law, cL_law, none), (yL_law, cL_law, none), (yL_law, cL_law, none), (yL_law, cL_law, none), (yL_law, cL_law, none), (yL_law, cL_law, none), (yL_law, cL_law, none), (yL_law, cL_law, none)]
def z_mY3 : List (MethodName × ByteArray × Option FieldType) := [(yL_law, cL_law, none), (yL_law, cL_law, none), (yL_law, cL_law, none), (yL_law, cL_law, none), (yL_law, cL_law, none), (yL_law, cL_law, none), (yL_law, cL_law, none), (yL_law, cL_law, none), (yL_law, cL_law, none), (yL_law, cL_law, none), (yL_law, cL_law, none), (yL_law, cL_law, none), (yL_law, cL_law, none), (yL_law, cL_law, none), (yL_law, cL_law, none), (yL_law, cL_law, none), (yL_law, cL_law, none), (yL_law, cL_law, none), (yL_law, cL_law, none), (yL_law, cL_law, none), (yL_law, cL_law, none), (yL_law, cL_law, none), (yL_law, cL_law, none), (yL_law, cL_law, none), (yL_law, cL_law, none), (yL_law, cL_law, none), (yL_law, cL_law, none), (yL_law, cL_law, none), (yL_law, cL_law, none), (yL_law, cL_law, none), (yL_law, cL_law, none), (yL_law, cL_law, none), (yL_law, cL_law, none), (yL_law, cL_law, none), (yL_law, cL_law, none), (yL_law, cL_law, none), (yL_law, cL_law, none), (yL_law, cL_law, none), (yL_law, cL_law, none), (yL_law, cL_law, none), (yL_law, cL_law, none), (yL_law, cL_law, none), (yL_law, cL_law, none), (yL_law, cL_law, none), (yL_law, cL_law, none), (yL_law, cL_law, none), (yL_law, cL_law, none), (yL_law, cL_law, none), (yL_law, cL_law, none), (yL_law, cL_law, none), (yL_law, cL_law, none), (yL_law, cL_law, none), (yL_law, cL_law, none), (yL_law, cL_law, none), (yL_law, cL_law, none), (yL_law, cL_law, none), (yL_law, cL_law, none), (yL_law, cL_law, none), (yL_law, cL_law, none), (yL_law, cL_law, none)]
def z_mY4 : List (MethodName × ByteArray × Option FieldType) := [(yL_law, cL_law, none), (yL_law, cL_law, none), (yL_law, cL_law, none), (yL_law, cL_law, none), (yL_law, cL_law, none), (yL_law, cL_law, none), (yL_law, cL_law, none), (yL_law, cL_law, none), (yL_law, cL_law, none), (yL_law, cL_law, none), (yL_law, cL_law, some .boolean), (yL_cell, cL_cell, (some .int)), (yL_put, cL_put, (some .int)), (yL_number, cL_number, (some .int)), (yL_numbers, cL_numbers, none), (yL_house, cL_house, (some .boolean))]
def z_mY : List (MethodName × ByteArray × Option FieldType) := z_mY0 ++ z_mY1 ++ z_mY2 ++ z_mY3 ++ z_mY4
def z_mk : List Nat := [2, 0, 0, 0, 0, 0, 0, 0, 0, 0, 0, 0, 0, 0, 0, 0, 0, 0, 2, 0, 0, 0, 0, 0, 0, 0, 0, 0, 0, 0, 0, 2, 0, 0, 0, 0, 0, 0, 0, 0, 0, 0, 0, 0, 2, 0, 0, 0, 0, 0, 0, 0, 0, 0, 0, 0, 0, 2, 0, 0, 0, 0, 0, 2, 0, 0, 0, 0, 1, 0, 0, 1, 0, 0, 0, 0, 0, 0, 2, 0, 0, 0, 0, 0, 0, 0, 2, 0, 0, 0, 0, 0, 0, 0, 0, 0, 0, 0, 0, 0, 0, 0, 0, 0, 0, 0, 0, 0, 0, 0, 0, 0, 0, 0, 0, 0, 0, 0, 0, 0, 0, 0, 0, 0, 0, 0, 0, 1, 0, 0, 0, 0, 0, 0, 0, 2, 1, 1, 1, 1, 0, 0, 0, 0, 0, 1, 0, 0, 0, 0, 0, 0, 0, 1, 0, 0, 0, 0, 0, 0, 0, 0, 0, 0, 0, 0, 0, 0, 0, 0, 0, 0, 0, 0, 0, 0, 0, 0, 0, 0, 0, 0, 0, 0, 0, 0, 0, 0, 0, 0, 0, 0, 0, 0, 0, 0, 0, 0, 0, 0, 0, 0, 0, 0, 0, 0, 0, 0, 0, 1, 0, 0, 0, 0, 0, 0, 0, 0, 0, 0, 0, 0, 0, 0, 0, 0, 0, 0, 0, 0, 0, 0, 0, 0, 0, 0, 0, 0, 0, 0, 0, 0, 0, 0, 0, 0, 0, 0, 0, 0, 1, 1, 1, 1, 1, 1]
def z_mP0 : List ((Nat × Nat) × (Nat × Nat) × (Nat × Nat) × (Nat × Nat)) := [((1, 188), (1, 187), (99, 0), (1, 8)), ((3, 206), (3, 204), (3, 205), (1, 8)), ((2, 103), (2, 101), (2, 102), (1, 8)), ((2, 111), (2, 109), (2, 110), (1, 8)), ((99, 0), (99, 0), (99, 0), (99, 0)), ((99, 0), (99, 0), (99, 0), (99, 0)), ((99, 0), (99, 0), (99, 0), (99, 0)), ((99, 0), (99, 0), (99, 0), (99, 0)), ((3, 238), (3, 236), (3, 237), (1, 8)), ((4, 6), (4, 4), (4, 5), (1, 8)), ((4, 19), (4, 17), (4, 18), (1, 8)), ((4, 27), (4, 25), (4, 26), (1, 8)), ((4, 36), (4, 34), (4, 35), (1, 8)), ((4, 15), (4, 13), (4, 14), (1, 8)), ((2, 170), (2, 168), (2, 169), (1, 8)), ((2, 153), (2, 151), (2, 152), (1, 8)), ((2, 139), (2, 137), (2, 138), (1, 8)), ((2, 143), (2, 141), (2, 142), (1, 8)), ((1, 41), (1, 40), (99, 0), (1, 3)), ((3, 202), (3, 200), (3, 201), (1, 3)), ((3, 210), (3, 209), (0, 29), (1, 3)), ((3, 214), (3, 213), (0, 30), (1, 3)), ((3, 226), (3, 225), (0, 33), (1, 3)), ((3, 234), (3, 233), (0, 35), (1, 3)), ((3, 222), (3, 221), (0, 32), (1, 3)), ((3, 218), (3, 217), (0, 31), (1, 3)), ((3, 230), (3, 229), (0, 34), (1, 3)), ((4, 2), (4, 1), (0, 36), (1, 3)), ((4, 10), (4, 9), (0, 37), (1, 3)), ((4, 23), (4, 22), (0, 38), (1, 3)), ((4, 32), (4, 31), (0, 39), (1, 3)), ((1, 69), (1, 68), (99, 0), (1, 4)), ((2, 229), (2, 227), (2, 228), (1, 4)), ((2, 209), (2, 207), (2, 208), (1, 4)), ((3, 132), (3, 130), (3, 131), (1, 4)), ((3, 128), (3, 126), (3, 127), (1, 4)), ((2, 131), (2, 129), (2, 130), (1, 4)), ((2, 175), (2, 173), (2, 174), (1, 4)), ((2, 162), (2, 160), (2, 161), (1, 4)), ((2, 166), (2, 165), (0, 3), (1, 4)), ((2, 119), (2, 117), (2, 118), (1, 4)), ((2, 123), (2, 122), (0, 0), (1, 4)), ((2, 127), (2, 126), (0, 1), (1, 4)), ((2, 135), (2, 134), (0, 2), (1, 4)), ((1, 99), (1, 98), (99, 0), (1, 6)), ((2, 225), (2, 223), (2, 224), (1, 6)), ((2, 233), (2, 232), (0, 6), (1, 6)), ((3, 30), (3, 29), (0, 14), (1, 6)), ((2, 237), (2, 236), (0, 7), (1, 6)), ((3, 21), (3, 20), (0, 12), (1, 6)), ((3, 26), (3, 25), (0, 13), (1, 6)), ((3, 1), (3, 0), (0, 8), (1, 6)), ((3, 10), (3, 9), (0, 10), (1, 6)), ((3, 6), (3, 5), (0, 9), (1, 6)), ((3, 15), (3, 14), (0, 11), (1, 6)), ((3, 34), (3, 33), (0, 15), (1, 6)), ((3, 38), (3, 37), (0, 16), (1, 6)), ((1, 82), (1, 81), (99, 0), (1, 5)), ((99, 0), (99, 0), (99, 0), (99, 0)), ((99, 0), (99, 0), (99, 0), (99, 0))]
def z_mP1 : List ((Nat × Nat) × (Nat × Nat) × (Nat × Nat) × (Nat × Nat)) := [((3, 46), (3, 44), (3, 45), (1, 5)), ((3, 51), (3, 49), (3, 50), (1, 5)), ((3, 56), (3, 55), (0, 17), (1, 5)), ((1, 127), (1, 126), (99, 0), (1, 7)), ((3, 68), (3, 66), (3, 67), (1, 7)), ((3, 140), (3, 138), (3, 139), (1, 7)), ((3, 72), (3, 70), (3, 71), (1, 7)), ((3, 80), (3, 78), (3, 79), (1, 7)), ((3, 84), (3, 83), (99, 0), (1, 7)), ((3, 88), (3, 87), (0, 20), (1, 7)), ((3, 96), (3, 95), (0, 21), (1, 7)), ((3, 91), (3, 90), (99, 0), (1, 7)), ((3, 112), (3, 111), (0, 24), (1, 7)), ((3, 100), (3, 99), (0, 22), (1, 7)), ((3, 104), (3, 103), (0, 23), (1, 7)), ((3, 116), (3, 115), (0, 25), (1, 7)), ((3, 120), (3, 119), (0, 26), (1, 7)), ((3, 76), (3, 75), (0, 19), (1, 7)), ((1, 23), (1, 22), (99, 0), (1, 2)), ((2, 183), (2, 181), (2, 182), (1, 2)), ((2, 198), (2, 196), (2, 197), (1, 2)), ((3, 190), (3, 188), (3, 189), (1, 2)), ((99, 0), (99, 0), (99, 0), (99, 0)), ((2, 187), (2, 185), (2, 186), (1, 2)), ((99, 0), (99, 0), (99, 0), (99, 0)), ((99, 0), (99, 0), (99, 0), (99, 0)), ((1, 15), (1, 14), (99, 0), (1, 1)), ((99, 0), (99, 0), (99, 0), (99, 0)), ((99, 0), (99, 0), (99, 0), (99, 0)), ((99, 0), (99, 0), (99, 0), (99, 0)), ((99, 0), (99, 0), (99, 0), (99, 0)), ((99, 0), (99, 0), (99, 0), (99, 0)), ((99, 0), (99, 0), (99, 0), (99, 0)), ((3, 179), (3, 177), (3, 178), (1, 1)), ((3, 186), (3, 184), (3, 185), (1, 1)), ((3, 198), (3, 196), (3, 197), (1, 1)), ((4, 40), (4, 38), (4, 39), (1, 1)), ((99, 0), (99, 0), (99, 0), (99, 0)), ((99, 0), (99, 0), (99, 0), (99, 0)), ((99, 0), (99, 0), (99, 0), (99, 0)), ((2, 99), (2, 97), (2, 98), (1, 1)), ((99, 0), (99, 0), (99, 0), (99, 0)), ((2, 107), (2, 105), (2, 106), (1, 1)), ((99, 0), (99, 0), (99, 0), (99, 0)), ((2, 115), (2, 113), (2, 114), (1, 1)), ((2, 158), (2, 156), (2, 157), (1, 1)), ((99, 0), (99, 0), (99, 0), (99, 0)), ((99, 0), (99, 0), (99, 0), (99, 0)), ((2, 179), (2, 177), (2, 178), (1, 1)), ((2, 194), (2, 192), (2, 193), (1, 1)), ((2, 213), (2, 211), (2, 212), (1, 1)), ((99, 0), (99, 0), (99, 0), (99, 0)), ((2, 221), (2, 219), (2, 220), (1, 1)), ((3, 42), (3, 40), (3, 41), (1, 1)), ((3, 60), (3, 58), (3, 59), (1, 1)), ((3, 124), (3, 122), (3, 123), (1, 1)), ((3, 145), (3, 143), (3, 144), (1, 1)), ((3, 149), (3, 147), (3, 148), (1, 1)), ((3, 153), (3, 151), (3, 152), (1, 1)), ((3, 157), (3, 155), (3, 156), (1, 1))]
def z_mP2 : List ((Nat × Nat) × (Nat × Nat) × (Nat × Nat) × (Nat × Nat)) := [((99, 0), (99, 0), (99, 0), (99, 0)), ((3, 165), (3, 163), (3, 164), (1, 1)), ((99, 0), (99, 0), (99, 0), (99, 0)), ((99, 0), (99, 0), (99, 0), (99, 0)), ((99, 0), (99, 0), (99, 0), (99, 0)), ((99, 0), (99, 0), (99, 0), (99, 0)), ((2, 202), (2, 201), (0, 4), (1, 1)), ((2, 205), (2, 204), (99, 0), (1, 1)), ((99, 0), (99, 0), (99, 0), (99, 0)), ((2, 217), (2, 216), (0, 5), (1, 1)), ((99, 0), (99, 0), (99, 0), (99, 0)), ((3, 64), (3, 63), (0, 18), (1, 1)), ((3, 161), (3, 160), (0, 28), (1, 1)), ((3, 136), (3, 135), (0, 27), (1, 1)), ((99, 0), (99, 0), (99, 0), (99, 0)), ((99, 0), (99, 0), (99, 0), (99, 0)), ((99, 0), (99, 0), (99, 0), (99, 0)), ((99, 0), (99, 0), (99, 0), (99, 0)), ((99, 0), (99, 0), (99, 0), (99, 0)), ((99, 0), (99, 0), (99, 0), (99, 0)), ((99, 0), (99, 0), (99, 0), (99, 0)), ((99, 0), (99, 0), (99, 0), (99, 0)), ((99, 0), (99, 0), (99, 0), (99, 0)), ((99, 0), (99, 0), (99, 0), (99, 0)), ((99, 0), (99, 0), (99, 0), (99, 0)), ((99, 0), (99, 0), (99, 0), (99, 0)), ((99, 0), (99, 0), (99, 0), (99, 0)), ((99, 0), (99, 0), (99, 0), (99, 0)), ((99, 0), (99, 0), (99, 0), (99, 0)), ((99, 0), (99, 0), (99, 0), (99, 0)), ((99, 0), (99, 0), (99, 0), (99, 0)), ((99, 0), (99, 0), (99, 0), (99, 0)), ((99, 0), (99, 0), (99, 0), (99, 0)), ((99, 0), (99, 0), (99, 0), (99, 0)), ((99, 0), (99, 0), (99, 0), (99, 0)), ((99, 0), (99, 0), (99, 0), (99, 0)), ((99, 0), (99, 0), (99, 0), (99, 0)), ((99, 0), (99, 0), (99, 0), (99, 0)), ((99, 0), (99, 0), (99, 0), (99, 0)), ((99, 0), (99, 0), (99, 0), (99, 0)), ((99, 0), (99, 0), (99, 0), (99, 0)), ((99, 0), (99, 0), (99, 0), (99, 0)), ((99, 0), (99, 0), (99, 0), (99, 0)), ((99, 0), (99, 0), (99, 0), (99, 0)), ((99, 0), (99, 0), (99, 0), (99, 0)), ((99, 0), (99, 0), (99, 0), (99, 0)), ((99, 0), (99, 0), (99, 0), (99, 0)), ((99, 0), (99, 0), (99, 0), (99, 0)), ((99, 0), (99, 0), (99, 0), (99, 0)), ((99, 0), (99, 0), (99, 0), (99, 0)), ((99, 0), (99, 0), (99, 0), (99, 0)), ((99, 0), (99, 0), (99, 0), (99, 0)), ((99, 0), (99, 0), (99, 0), (99, 0)), ((99, 0), (99, 0), (99, 0), (99, 0)), ((99, 0), (99, 0), (99, 0), (99, 0)), ((99, 0), (99, 0), (99, 0), (99, 0)), ((99, 0), (99, 0), (99, 0), (99, 0)), ((99, 0), (99, 0), (99, 0), (99, 0)), ((99, 0), (99, 0), (99, 0), (99, 0)), ((99, 0), (99, 0), (99, 0), (99, 0))]
def z_mP3 : List ((Nat × Nat) × (Nat × Nat) × (Nat × Nat) × (Nat × Nat)) := [((99, 0), (99, 0), (99, 0), (99, 0)), ((99, 0), (99, 0), (99, 0), (99, 0)), ((99, 0), (99, 0), (99, 0), (99, 0)), ((99, 0), (99, 0), (99, 0), (99, 0)), ((99, 0), (99, 0), (99, 0), (99, 0)), ((99, 0), (99, 0), (99, 0), (99, 0)), ((99, 0), (99, 0), (99, 0), (99, 0)), ((99, 0), (99, 0), (99, 0), (99, 0)), ((99, 0), (99, 0), (99, 0), (99, 0)), ((99, 0), (99, 0), (99, 0), (99, 0)), ((99, 0), (99, 0), (99, 0), (99, 0)), ((99, 0), (99, 0), (99, 0), (99, 0)), ((99, 0), (99, 0), (99, 0), (99, 0)), ((99, 0), (99, 0), (99, 0), (99, 0)), ((99, 0), (99, 0), (99, 0), (99, 0)), ((99, 0), (99, 0), (99, 0), (99, 0)), ((99, 0), (99, 0), (99, 0), (99, 0)), ((99, 0), (99, 0), (99, 0), (99, 0)), ((99, 0), (99, 0), (99, 0), (99, 0)), ((99, 0), (99, 0), (99, 0), (99, 0)), ((99, 0), (99, 0), (99, 0), (99, 0)), ((99, 0), (99, 0), (99, 0), (99, 0)), ((99, 0), (99, 0), (99, 0), (99, 0)), ((99, 0), (99, 0), (99, 0), (99, 0)), ((99, 0), (99, 0), (99, 0), (99, 0)), ((99, 0), (99, 0), (99, 0), (99, 0)), ((99, 0), (99, 0), (99, 0), (99, 0)), ((99, 0), (99, 0), (99, 0), (99, 0)), ((99, 0), (99, 0), (99, 0), (99, 0)), ((99, 0), (99, 0), (99, 0), (99, 0)), ((99, 0), (99, 0), (99, 0), (99, 0)), ((99, 0), (99, 0), (99, 0), (99, 0)), ((99, 0), (99, 0), (99, 0), (99, 0)), ((99, 0), (99, 0), (99, 0), (99, 0)), ((99, 0), (99, 0), (99, 0), (99, 0)), ((99, 0), (99, 0), (99, 0), (99, 0)), ((99, 0), (99, 0), (99, 0), (99, 0)), ((99, 0), (99, 0), (99, 0), (99, 0)), ((99, 0), (99, 0), (99, 0), (99, 0)), ((99, 0), (99, 0), (99, 0), (99, 0)), ((99, 0), (99, 0), (99, 0), (99, 0)), ((99, 0), (99, 0), (99, 0), (99, 0)), ((99, 0), (99, 0), (99, 0), (99, 0)), ((99, 0), (99, 0), (99, 0), (99, 0)), ((99, 0), (99, 0), (99, 0), (99, 0)), ((99, 0), (99, 0), (99, 0), (99, 0)), ((99, 0), (99, 0), (99, 0), (99, 0)), ((99, 0), (99, 0), (99, 0), (99, 0)), ((99, 0), (99, 0), (99, 0), (99, 0)), ((99, 0), (99, 0), (99, 0), (99, 0)), ((99, 0), (99, 0), (99, 0), (99, 0)), ((99, 0), (99, 0), (99, 0), (99, 0)), ((99, 0), (99, 0), (99, 0), (99, 0)), ((99, 0), (99, 0), (99, 0), (99, 0)), ((99, 0), (99, 0), (99, 0), (99, 0)), ((99, 0), (99, 0), (99, 0), (99, 0)), ((99, 0), (99, 0), (99, 0), (99, 0)), ((99, 0), (99, 0), (99, 0), (99, 0)), ((99, 0), (99, 0), (99, 0), (99, 0)), ((99, 0), (99, 0), (99, 0), (99, 0))]
def z_mP4 : List ((Nat × Nat) × (Nat × Nat) × (Nat × Nat) × (Nat × Nat)) := [((99, 0), (99, 0), (99, 0), (99, 0)), ((99, 0), (99, 0), (99, 0), (99, 0)), ((99, 0), (99, 0), (99, 0), (99, 0)), ((99, 0), (99, 0), (99, 0), (99, 0)), ((99, 0), (99, 0), (99, 0), (99, 0)), ((99, 0), (99, 0), (99, 0), (99, 0)), ((99, 0), (99, 0), (99, 0), (99, 0)), ((99, 0), (99, 0), (99, 0), (99, 0)), ((99, 0), (99, 0), (99, 0), (99, 0)), ((99, 0), (99, 0), (99, 0), (99, 0)), ((99, 0), (99, 0), (99, 0), (99, 0)), ((3, 168), (3, 167), (99, 0), (1, 0)), ((3, 182), (3, 181), (99, 0), (1, 0)), ((3, 194), (3, 193), (99, 0), (1, 0)), ((3, 172), (3, 171), (99, 0), (1, 0)), ((3, 175), (3, 174), (99, 0), (1, 0))]
def z_mP : List ((Nat × Nat) × (Nat × Nat) × (Nat × Nat) × (Nat × Nat)) := z_mP0 ++ z_mP1 ++ z_mP2 ++ z_mP3 ++ z_mP4
end
section
/-! THE PROGRAM as data, written by wip/p42/gen/tab.py: a row an instruction: its place, its length, (group, instruction, x, y, z, its word's table and place); the ghost's methods (X8) and those that this law never calls as whole has them -/
def pgX0_init : List (Nat × Nat × z_En) := [(0, 1, 0, .aload_n 0, 0, 0, 0, 99, 0), (1, 3, 4, .invokespecial 3, 0, 0, 13, 1, 189), (4, 1, 0, .aload_n 0, 0, 0, 0, 99, 0), (5, 2, 0, .bipush 60, 0, 0, 0, 99, 0), (7, 3, 3, .putfield 9, 0, 0, 0, 1, 190), (10, 1, 0, .aload_n 0, 0, 0, 0, 99, 0), (11, 2, 0, .bipush 6, 0, 0, 0, 99, 0), (13, 2, 3, .newarray .int, 10, 0, 0, 99, 0), (15, 3, 3, .putfield 15, 0, 4, 1, 1, 206), (18, 1, 0, .aload_n 0, 0, 0, 0, 99, 0), (19, 2, 0, .bipush 6, 0, 0, 0, 99, 0), (21, 2, 3, .newarray .int, 10, 0, 0, 99, 0), (23, 3, 3, .putfield 19, 0, 5, 1, 1, 211), (26, 1, 0, .aload_n 0, 0, 0, 0, 99, 0), (27, 2, 0, .bipush 6, 0, 0, 0, 99, 0), (29, 2, 3, .newarray .int, 10, 0, 0, 99, 0), (31, 3, 3, .putfield 22, 0, 6, 1, 1, 215), (34, 1, 0, .aload_n 0, 0, 0, 0, 99, 0), (35, 2, 0, .bipush 6, 0, 0, 0, 99, 0), (37, 2, 3, .newarray .long, 11, 0, 0, 99, 0), (39, 3, 3, .putfield 25, 0, 7, 1, 1, 216), (42, 1, 0, .aload_n 0, 0, 0, 0, 99, 0), (43, 2, 0, .bipush 8, 0, 0, 0, 99, 0), (45, 2, 3, .newarray .int, 10, 0, 0, 99, 0), (47, 3, 3, .putfield 29, 0, 8, 1, 1, 217), (50, 1, 0, .aload_n 0, 0, 0, 0, 99, 0), (51, 2, 0, .bipush 8, 0, 0, 0, 99, 0), (53, 2, 3, .newarray .int, 10, 0, 0, 99, 0), (55, 3, 3, .putfield 32, 0, 9, 1, 1, 222), (58, 1, 0, .aload_n 0, 0, 0, 0, 99, 0), (59, 2, 0, .bipush 8, 0, 0, 0, 99, 0), (61, 2, 3, .newarray .int, 10, 0, 0, 99, 0), (63, 3, 3, .putfield 35, 0, 10, 1, 1, 225), (66, 1, 0, .aload_n 0, 0, 0, 0, 99, 0), (67, 2, 0, .bipush 8, 0, 0, 0, 99, 0), (69, 2, 3, .newarray .boolean, 13, 0, 0, 99, 0), (71, 3, 3, .putfield 38, 0, 11, 1, 1, 227), (74, 1, 0, .aload_n 0, 0, 0, 0, 99, 0), (75, 2, 0, .bipush 24, 0, 0, 0, 99, 0), (77, 2, 3, .newarray .int, 10, 0, 0, 99, 0), (79, 3, 3, .putfield 42, 0, 12, 1, 1, 228), (82, 1, 0, .aload_n 0, 0, 0, 0, 99, 0), (83, 2, 0, .bipush 24, 0, 0, 0, 99, 0), (85, 2, 3, .newarray .int, 10, 0, 0, 99, 0), (87, 3, 3, .putfield 45, 0, 13, 1, 1, 233), (90, 1, 0, .aload_n 0, 0, 0, 0, 99, 0), (91, 2, 0, .bipush 24, 0, 0, 0, 99, 0), (93, 2, 3, .newarray .int, 10, 0, 0, 99, 0), (95, 3, 3, .putfield 48, 0, 14, 1, 1, 238), (98, 1, 0, .aload_n 0, 0, 0, 0, 99, 0), (99, 2, 0, .bipush 24, 0, 0, 0, 99, 0), (101, 2, 3, .newarray .int, 10, 0, 0, 99, 0), (103, 3, 3, .putfield 51, 0, 15, 1, 2, 2), (106, 1, 0, .aload_n 0, 0, 0, 0, 99, 0), (107, 2, 0, .bipush 24, 0, 0, 0, 99, 0), (109, 2, 3, .newarray .int, 10, 0, 0, 99, 0), (111, 3, 3, .putfield 54, 0, 16, 1, 2, 5), (114, 1, 0, .aload_n 0, 0, 0, 0, 99, 0), (115, 2, 0, .bipush 24, 0, 0, 0, 99, 0), (117, 2, 3, .newarray .int, 10, 0, 0, 99, 0), (119, 3, 3, .putfield 57, 0, 17, 1, 2, 6), (122, 1, 0, .aload_n 0, 0, 0, 0, 99, 0), (123, 2, 0, .bipush 24, 0, 0, 0, 99, 0), (125, 2, 3, .newarray .int, 10, 0, 0, 99, 0), (127, 3, 3, .putfield 60, 0, 18, 1, 2, 8), (130, 1, 2, .return_, 0, 0, 0, 99, 0)]
def pgX0_clear : List (Nat × Nat × z_En) := [(0, 1, 0, .aload_n 0, 0, 0, 0, 99, 0), (1, 2, 0, .bipush 60, 0, 0, 0, 99, 0), (3, 3, 3, .putfield 9, 0, 0, 0, 1, 190), (6, 1, 0, .aload_n 0, 0, 0, 0, 99, 0), (7, 1, 0, .iconst 0, 0, 0, 0, 99, 0), (8, 3, 3, .putfield 63, 0, 1, 0, 1, 193), (11, 1, 0, .aload_n 0, 0, 0, 0, 99, 0), (12, 1, 0, .iconst 0, 0, 0, 0, 99, 0), (13, 3, 3, .putfield 66, 0, 2, 0, 1, 196), (16, 1, 0, .aload_n 0, 0, 0, 0, 99, 0), (17, 1, 0, .iconst 0, 0, 0, 0, 99, 0), (18, 3, 3, .putfield 69, 0, 3, 0, 1, 200), (21, 1, 2, .return_, 0, 0, 0, 99, 0)]
def pgX0_hasPart : List (Nat × Nat × z_En) := [(0, 1, 0, .iload_n 1, 0, 0, 0, 99, 0), (1, 3, 2, .ifCond .lt 15, 0, 0, 0, 99, 0), (4, 1, 0, .iload_n 1, 0, 0, 0, 99, 0), (5, 1, 0, .aload_n 0, 0, 0, 0, 99, 0), (6, 3, 3, .getfield 63, 0, 1, 0, 1, 193), (9, 3, 2, .if_icmp .ge 7, 0, 0, 0, 99, 0), (12, 1, 0, .iconst 1, 0, 0, 0, 99, 0), (13, 3, 2, .goto 4, 0, 0, 0, 99, 0), (16, 1, 0, .iconst 0, 0, 0, 0, 99, 0), (17, 1, 2, .ireturn, 0, 0, 3, 99, 0)]
def pgX0_hasReader : List (Nat × Nat × z_En) := [(0, 1, 0, .iload_n 1, 0, 0, 0, 99, 0), (1, 3, 2, .ifCond .lt 15, 0, 0, 0, 99, 0), (4, 1, 0, .iload_n 1, 0, 0, 0, 99, 0), (5, 1, 0, .aload_n 0, 0, 0, 0, 99, 0), (6, 3, 3, .getfield 66, 0, 2, 0, 1, 196), (9, 3, 2, .if_icmp .ge 7, 0, 0, 0, 99, 0), (12, 1, 0, .iconst 1, 0, 0, 0, 99, 0), (13, 3, 2, .goto 4, 0, 0, 0, 99, 0), (16, 1, 0, .iconst 0, 0, 0, 0, 99, 0), (17, 1, 2, .ireturn, 0, 0, 3, 99, 0)]
def pgX0_hasWant : List (Nat × Nat × z_En) := [(0, 1, 0, .iload_n 1, 0, 0, 0, 99, 0), (1, 3, 2, .ifCond .lt 15, 0, 0, 0, 99, 0), (4, 1, 0, .iload_n 1, 0, 0, 0, 99, 0), (5, 1, 0, .aload_n 0, 0, 0, 0, 99, 0), (6, 3, 3, .getfield 69, 0, 3, 0, 1, 202), (9, 3, 2, .if_icmp .ge 7, 0, 0, 0, 99, 0), (12, 1, 0, .iconst 1, 0, 0, 0, 99, 0), (13, 3, 2, .goto 4, 0, 0, 0, 99, 0), (16, 1, 0, .iconst 0, 0, 0, 0, 99, 0), (17, 1, 2, .ireturn, 0, 0, 3, 99, 0)]
def pgX0_ofPart : List (Nat × Nat × z_En) := [(0, 1, 0, .iload_n 2, 0, 0, 0, 99, 0), (1, 27, 2, .lookupswitch 41 #[(0, 27), (1, 34)], 0, 0, 0, 99, 0), (28, 1, 0, .aload_n 0, 0, 0, 0, 99, 0), (29, 3, 3, .getfield 15, 0, 4, 1, 1, 208), (32, 1, 0, .iload_n 1, 0, 0, 0, 99, 0), (33, 1, 3, .iaload, 0, 0, 0, 99, 0), (34, 1, 2, .ireturn, 0, 0, 0, 99, 0), (35, 1, 0, .aload_n 0, 0, 0, 0, 99, 0), (36, 3, 3, .getfield 19, 0, 5, 1, 1, 213), (39, 1, 0, .iload_n 1, 0, 0, 0, 99, 0), (40, 1, 3, .iaload, 0, 0, 0, 99, 0), (41, 1, 2, .ireturn, 0, 0, 0, 99, 0), (42, 1, 0, .aload_n 0, 0, 0, 0, 99, 0), (43, 3, 3, .getfield 22, 0, 6, 1, 1, 218), (46, 1, 0, .iload_n 1, 0, 0, 0, 99, 0), (47, 1, 3, .iaload, 0, 0, 0, 99, 0), (48, 1, 2, .ireturn, 0, 0, 0, 99, 0)]
def pgX0_ofReader : List (Nat × Nat × z_En) := [(0, 1, 0, .iload_n 2, 0, 0, 0, 99, 0), (1, 27, 2, .tableswitch 48 0 2 #[27, 34, 41], 0, 0, 0, 99, 0), (28, 1, 0, .aload_n 0, 0, 0, 0, 99, 0), (29, 3, 3, .getfield 29, 0, 8, 1, 1, 221), (32, 1, 0, .iload_n 1, 0, 0, 0, 99, 0), (33, 1, 3, .iaload, 0, 0, 0, 99, 0), (34, 1, 2, .ireturn, 0, 0, 0, 99, 0), (35, 1, 0, .aload_n 0, 0, 0, 0, 99, 0), (36, 3, 3, .getfield 32, 0, 9, 1, 1, 226), (39, 1, 0, .iload_n 1, 0, 0, 0, 99, 0), (40, 1, 3, .iaload, 0, 0, 0, 99, 0), (41, 1, 2, .ireturn, 0, 0, 0, 99, 0), (42, 1, 0, .aload_n 0, 0, 0, 0, 99, 0), (43, 3, 3, .getfield 35, 0, 10, 1, 1, 229), (46, 1, 0, .iload_n 1, 0, 0, 0, 99, 0), (47, 1, 3, .iaload, 0, 0, 0, 99, 0), (48, 1, 2, .ireturn, 0, 0, 0, 99, 0), (49, 1, 0, .aload_n 0, 0, 0, 0, 99, 0), (50, 3, 3, .getfield 38, 0, 11, 1, 1, 231), (53, 1, 0, .iload_n 1, 0, 0, 0, 99, 0), (54, 1, 3, .baload, 13, 0, 0, 99, 0), (55, 3, 2, .ifCond .eq 7, 0, 0, 0, 99, 0), (58, 1, 0, .iconst 1, 0, 0, 0, 99, 0), (59, 3, 2, .goto 4, 0, 0, 0, 99, 0), (62, 1, 0, .iconst 0, 0, 0, 0, 99, 0), (63, 1, 2, .ireturn, 0, 0, 0, 99, 0)]
def pgX0_ofWant : List (Nat × Nat × z_En) := [(0, 1, 0, .iload_n 2, 0, 0, 0, 99, 0), (1, 31, 2, .tableswitch 59 0 3 #[31, 38, 45, 52], 0, 0, 0, 99, 0), (32, 1, 0, .aload_n 0, 0, 0, 0, 99, 0), (33, 3, 3, .getfield 42, 0, 12, 1, 1, 232), (36, 1, 0, .iload_n 1, 0, 0, 0, 99, 0), (37, 1, 3, .iaload, 0, 0, 0, 99, 0), (38, 1, 2, .ireturn, 0, 0, 0, 99, 0), (39, 1, 0, .aload_n 0, 0, 0, 0, 99, 0), (40, 3, 3, .getfield 45, 0, 13, 1, 1, 237), (43, 1, 0, .iload_n 1, 0, 0, 0, 99, 0), (44, 1, 3, .iaload, 0, 0, 0, 99, 0), (45, 1, 2, .ireturn, 0, 0, 0, 99, 0), (46, 1, 0, .aload_n 0, 0, 0, 0, 99, 0), (47, 3, 3, .getfield 48, 0, 14, 1, 2, 2), (50, 1, 0, .iload_n 1, 0, 0, 0, 99, 0), (51, 1, 3, .iaload, 0, 0, 0, 99, 0), (52, 1, 2, .ireturn, 0, 0, 0, 99, 0), (53, 1, 0, .aload_n 0, 0, 0, 0, 99, 0), (54, 3, 3, .getfield 51, 0, 15, 1, 2, 6), (57, 1, 0, .iload_n 1, 0, 0, 0, 99, 0), (58, 1, 3, .iaload, 0, 0, 0, 99, 0), (59, 1, 2, .ireturn, 0, 0, 0, 99, 0), (60, 1, 0, .aload_n 0, 0, 0, 0, 99, 0), (61, 3, 3, .getfield 54, 0, 16, 1, 2, 9), (64, 1, 0, .iload_n 1, 0, 0, 0, 99, 0), (65, 1, 3, .iaload, 0, 0, 0, 99, 0), (66, 1, 2, .ireturn, 0, 0, 0, 99, 0)]
def pgX0_addPart : List (Nat × Nat × z_En) := [(0, 1, 0, .aload_n 0, 0, 0, 0, 99, 0), (1, 3, 3, .getfield 63, 0, 1, 0, 1, 193), (4, 2, 0, .bipush 6, 0, 0, 0, 99, 0), (6, 3, 2, .if_icmp .ge 53, 0, 0, 0, 99, 0), (9, 1, 0, .aload_n 0, 0, 0, 0, 99, 0), (10, 3, 3, .getfield 15, 0, 4, 1, 1, 206), (13, 1, 0, .aload_n 0, 0, 0, 0, 99, 0), (14, 3, 3, .getfield 63, 0, 1, 0, 1, 193), (17, 1, 0, .iload_n 1, 0, 0, 0, 99, 0), (18, 1, 3, .iastore, 0, 0, 0, 99, 0), (19, 1, 0, .aload_n 0, 0, 0, 0, 99, 0), (20, 3, 3, .getfield 19, 0, 5, 1, 1, 211), (23, 1, 0, .aload_n 0, 0, 0, 0, 99, 0), (24, 3, 3, .getfield 63, 0, 1, 0, 1, 193), (27, 1, 0, .iload_n 2, 0, 0, 0, 99, 0), (28, 1, 3, .iastore, 0, 0, 0, 99, 0), (29, 1, 0, .aload_n 0, 0, 0, 0, 99, 0), (30, 3, 3, .getfield 22, 0, 6, 1, 1, 215), (33, 1, 0, .aload_n 0, 0, 0, 0, 99, 0), (34, 3, 3, .getfield 63, 0, 1, 0, 1, 193), (37, 1, 0, .iload_n 3, 0, 0, 0, 99, 0), (38, 1, 3, .iastore, 0, 0, 0, 99, 0), (39, 1, 0, .aload_n 0, 0, 0, 0, 99, 0), (40, 3, 3, .getfield 25, 0, 7, 1, 1, 216), (43, 1, 0, .aload_n 0, 0, 0, 0, 99, 0), (44, 3, 3, .getfield 63, 0, 1, 0, 1, 193), (47, 1, 0, .lconst 0, 0, 0, 0, 99, 0), (48, 1, 3, .lastore, 0, 0, 0, 99, 0), (49, 1, 0, .aload_n 0, 0, 0, 0, 99, 0), (50, 1, 0, .dup, 0, 0, 0, 99, 0), (51, 3, 3, .getfield 63, 0, 1, 0, 1, 193), (54, 1, 0, .iconst 1, 0, 0, 0, 99, 0), (55, 1, 1, .iadd, 0, 0, 0, 99, 0), (56, 3, 3, .putfield 63, 0, 1, 0, 1, 193), (59, 1, 2, .return_, 0, 0, 0, 99, 0)]
def pgX0_addReader : List (Nat × Nat × z_En) := [(0, 1, 0, .aload_n 0, 0, 0, 0, 99, 0), (1, 3, 3, .getfield 66, 0, 2, 0, 1, 196), (4, 2, 0, .bipush 8, 0, 0, 0, 99, 0), (6, 3, 2, .if_icmp .ge 53, 0, 0, 0, 99, 0), (9, 1, 0, .aload_n 0, 0, 0, 0, 99, 0), (10, 3, 3, .getfield 29, 0, 8, 1, 1, 217), (13, 1, 0, .aload_n 0, 0, 0, 0, 99, 0), (14, 3, 3, .getfield 66, 0, 2, 0, 1, 196), (17, 1, 0, .iload_n 1, 0, 0, 0, 99, 0), (18, 1, 3, .iastore, 0, 0, 0, 99, 0), (19, 1, 0, .aload_n 0, 0, 0, 0, 99, 0), (20, 3, 3, .getfield 32, 0, 9, 1, 1, 222), (23, 1, 0, .aload_n 0, 0, 0, 0, 99, 0), (24, 3, 3, .getfield 66, 0, 2, 0, 1, 196), (27, 1, 0, .iload_n 2, 0, 0, 0, 99, 0), (28, 1, 3, .iastore, 0, 0, 0, 99, 0), (29, 1, 0, .aload_n 0, 0, 0, 0, 99, 0), (30, 3, 3, .getfield 35, 0, 10, 1, 1, 225), (33, 1, 0, .aload_n 0, 0, 0, 0, 99, 0), (34, 3, 3, .getfield 66, 0, 2, 0, 1, 196), (37, 1, 0, .iconst 0, 0, 0, 0, 99, 0), (38, 1, 3, .iastore, 0, 0, 0, 99, 0), (39, 1, 0, .aload_n 0, 0, 0, 0, 99, 0), (40, 3, 3, .getfield 38, 0, 11, 1, 1, 227), (43, 1, 0, .aload_n 0, 0, 0, 0, 99, 0), (44, 3, 3, .getfield 66, 0, 2, 0, 1, 196), (47, 1, 0, .iload_n 3, 0, 0, 0, 99, 0), (48, 1, 3, .bastore, 13, 0, 0, 99, 0), (49, 1, 0, .aload_n 0, 0, 0, 0, 99, 0), (50, 1, 0, .dup, 0, 0, 0, 99, 0), (51, 3, 3, .getfield 66, 0, 2, 0, 1, 196), (54, 1, 0, .iconst 1, 0, 0, 0, 99, 0), (55, 1, 1, .iadd, 0, 0, 0, 99, 0), (56, 3, 3, .putfield 66, 0, 2, 0, 1, 196), (59, 1, 2, .return_, 0, 0, 0, 99, 0)]
def pgX0_addWant : List (Nat × Nat × z_En) := [(0, 1, 0, .aload_n 0, 0, 0, 0, 99, 0), (1, 3, 3, .getfield 69, 0, 3, 0, 1, 200), (4, 2, 0, .bipush 24, 0, 0, 0, 99, 0), (6, 3, 2, .if_icmp .ge 135, 0, 0, 0, 99, 0), (9, 1, 0, .aload_n 0, 0, 0, 0, 99, 0), (10, 3, 3, .getfield 66, 0, 2, 0, 1, 196), (13, 3, 2, .ifCond .le 128, 0, 0, 0, 99, 0), (16, 1, 0, .aload_n 0, 0, 0, 0, 99, 0), (17, 3, 3, .getfield 66, 0, 2, 0, 1, 196), (20, 1, 0, .iconst 1, 0, 0, 0, 99, 0), (21, 1, 1, .isub, 0, 0, 0, 99, 0), (22, 2, 0, .istore 4, 0, 0, 0, 99, 0), (24, 1, 0, .aload_n 0, 0, 0, 0, 99, 0), (25, 3, 3, .getfield 42, 0, 12, 1, 1, 228), (28, 1, 0, .aload_n 0, 0, 0, 0, 99, 0), (29, 3, 3, .getfield 69, 0, 3, 0, 1, 200), (32, 2, 0, .iload 4, 0, 0, 0, 99, 0), (34, 1, 3, .iastore, 0, 0, 0, 99, 0), (35, 1, 0, .aload_n 0, 0, 0, 0, 99, 0), (36, 3, 3, .getfield 45, 0, 13, 1, 1, 233), (39, 1, 0, .aload_n 0, 0, 0, 0, 99, 0), (40, 3, 3, .getfield 69, 0, 3, 0, 1, 200), (43, 1, 0, .iload_n 1, 0, 0, 0, 99, 0), (44, 1, 3, .iastore, 0, 0, 0, 99, 0), (45, 1, 0, .aload_n 0, 0, 0, 0, 99, 0), (46, 3, 3, .getfield 48, 0, 14, 1, 1, 238), (49, 1, 0, .aload_n 0, 0, 0, 0, 99, 0), (50, 3, 3, .getfield 69, 0, 3, 0, 1, 200), (53, 1, 0, .iload_n 2, 0, 0, 0, 99, 0), (54, 1, 3, .iastore, 0, 0, 0, 99, 0), (55, 1, 0, .aload_n 0, 0, 0, 0, 99, 0), (56, 3, 3, .getfield 51, 0, 15, 1, 2, 2), (59, 1, 0, .aload_n 0, 0, 0, 0, 99, 0), (60, 3, 3, .getfield 69, 0, 3, 0, 1, 200), (63, 1, 0, .iload_n 3, 0, 0, 0, 99, 0), (64, 1, 3, .iastore, 0, 0, 0, 99, 0), (65, 1, 0, .aload_n 0, 0, 0, 0, 99, 0), (66, 3, 3, .getfield 54, 0, 16, 1, 2, 5), (69, 1, 0, .aload_n 0, 0, 0, 0, 99, 0), (70, 3, 3, .getfield 69, 0, 3, 0, 1, 200), (73, 1, 0, .iconst 0, 0, 0, 0, 99, 0), (74, 1, 3, .iastore, 0, 0, 0, 99, 0), (75, 1, 0, .aload_n 0, 0, 0, 0, 99, 0), (76, 3, 3, .getfield 57, 0, 17, 1, 2, 6), (79, 1, 0, .aload_n 0, 0, 0, 0, 99, 0), (80, 3, 3, .getfield 69, 0, 3, 0, 1, 200), (83, 1, 0, .iconst 0, 0, 0, 0, 99, 0), (84, 1, 3, .iastore, 0, 0, 0, 99, 0), (85, 1, 0, .aload_n 0, 0, 0, 0, 99, 0), (86, 3, 3, .getfield 60, 0, 18, 1, 2, 8), (89, 1, 0, .aload_n 0, 0, 0, 0, 99, 0), (90, 3, 3, .getfield 69, 0, 3, 0, 1, 200), (93, 1, 0, .aload_n 0, 0, 0, 0, 99, 0), (94, 3, 3, .getfield 38, 0, 11, 1, 1, 227), (97, 2, 0, .iload 4, 0, 0, 0, 99, 0), (99, 1, 3, .baload, 13, 0, 0, 99, 0), (100, 3, 2, .ifCond .eq 13, 0, 0, 0, 99, 0), (103, 1, 0, .aload_n 0, 0, 0, 0, 99, 0), (104, 3, 3, .getfield 35, 0, 10, 1, 1, 225), (107, 2, 0, .iload 4, 0, 0, 0, 99, 0), (109, 1, 3, .iaload, 0, 0, 0, 99, 0), (110, 3, 2, .goto 4, 0, 0, 0, 99, 0), (113, 1, 0, .iconst 0, 0, 0, 0, 99, 0), (114, 1, 3, .iastore, 0, 0, 0, 99, 0), (115, 1, 0, .aload_n 0, 0, 0, 0, 99, 0), (116, 3, 3, .getfield 35, 0, 10, 1, 1, 225), (119, 2, 0, .iload 4, 0, 0, 0, 99, 0), (121, 1, 0, .dup2, 0, 0, 0, 99, 0), (122, 1, 3, .iaload, 0, 0, 0, 99, 0), (123, 1, 0, .iconst 1, 0, 0, 0, 99, 0), (124, 1, 0, .aload_n 0, 0, 0, 0, 99, 0), (125, 3, 3, .getfield 69, 0, 3, 0, 1, 200), (128, 1, 1, .ishl, 0, 0, 0, 99, 0), (129, 1, 1, .ior, 0, 0, 0, 99, 0), (130, 1, 3, .iastore, 0, 0, 0, 99, 0), (131, 1, 0, .aload_n 0, 0, 0, 0, 99, 0), (132, 1, 0, .dup, 0, 0, 0, 99, 0), (133, 3, 3, .getfield 69, 0, 3, 0, 1, 200), (136, 1, 0, .iconst 1, 0, 0, 0, 99, 0), (137, 1, 1, .iadd, 0, 0, 0, 99, 0), (138, 3, 3, .putfield 69, 0, 3, 0, 1, 200), (141, 1, 2, .return_, 0, 0, 0, 99, 0)]
def pgX0_forbid : List (Nat × Nat × z_En) := [(0, 1, 0, .aload_n 0, 0, 0, 0, 99, 0), (1, 1, 0, .iload_n 1, 0, 0, 0, 99, 0), (2, 1, 0, .iload_n 3, 0, 0, 0, 99, 0), (3, 3, 4, .invokevirtual 72, 13, 3, 0, 4, 28), (6, 2, 0, .istore 4, 0, 0, 0, 99, 0), (8, 1, 0, .aload_n 0, 0, 0, 0, 99, 0), (9, 1, 0, .iload_n 2, 0, 0, 0, 99, 0), (10, 1, 0, .iload_n 3, 0, 0, 0, 99, 0), (11, 3, 4, .invokevirtual 72, 13, 3, 0, 4, 28), (14, 2, 0, .istore 5, 0, 0, 0, 99, 0), (16, 2, 0, .iload 4, 0, 0, 0, 99, 0), (18, 2, 0, .bipush (-9), 0, 0, 0, 99, 0), (20, 3, 2, .if_icmp .eq 41, 0, 0, 0, 99, 0), (23, 1, 0, .aload_n 0, 0, 0, 0, 99, 0), (24, 3, 3, .getfield 54, 0, 16, 1, 2, 5), (27, 2, 0, .iload 4, 0, 0, 0, 99, 0), (29, 1, 0, .dup2, 0, 0, 0, 99, 0), (30, 1, 3, .iaload, 0, 0, 0, 99, 0), (31, 1, 0, .iconst 1, 0, 0, 0, 99, 0), (32, 1, 0, .iload_n 2, 0, 0, 0, 99, 0), (33, 1, 1, .ishl, 0, 0, 0, 99, 0), (34, 1, 1, .ior, 0, 0, 0, 99, 0), (35, 1, 3, .iastore, 0, 0, 0, 99, 0), (36, 1, 0, .aload_n 0, 0, 0, 0, 99, 0), (37, 3, 3, .getfield 57, 0, 17, 1, 2, 6), (40, 2, 0, .iload 4, 0, 0, 0, 99, 0), (42, 1, 0, .dup2, 0, 0, 0, 99, 0), (43, 1, 3, .iaload, 0, 0, 0, 99, 0), (44, 2, 0, .iload 5, 0, 0, 0, 99, 0), (46, 2, 0, .bipush (-9), 0, 0, 0, 99, 0), (48, 3, 2, .if_icmp .ne 7, 0, 0, 0, 99, 0), (51, 1, 0, .iconst 0, 0, 0, 0, 99, 0), (52, 3, 2, .goto 7, 0, 0, 0, 99, 0), (55, 1, 0, .iconst 1, 0, 0, 0, 99, 0), (56, 2, 0, .iload 5, 0, 0, 0, 99, 0), (58, 1, 1, .ishl, 0, 0, 0, 99, 0), (59, 1, 1, .ior, 0, 0, 0, 99, 0), (60, 1, 3, .iastore, 0, 0, 0, 99, 0), (61, 1, 2, .return_, 0, 0, 0, 99, 0)]
def pgX0_cover : List (Nat × Nat × z_En) := [(0, 1, 0, .iload_n 2, 0, 0, 0, 99, 0), (1, 2, 0, .istore 4, 0, 0, 0, 99, 0), (3, 2, 0, .iload 4, 0, 0, 0, 99, 0), (5, 1, 0, .iload_n 3, 0, 0, 0, 99, 0), (6, 3, 2, .if_icmp .gt 22, 0, 0, 0, 99, 0), (9, 1, 0, .aload_n 0, 0, 0, 0, 99, 0), (10, 3, 3, .getfield 25, 0, 7, 1, 1, 216), (13, 1, 0, .iload_n 1, 0, 0, 0, 99, 0), (14, 1, 0, .dup2, 0, 0, 0, 99, 0), (15, 1, 3, .laload, 0, 0, 0, 99, 0), (16, 1, 0, .lconst 1, 0, 0, 0, 99, 0), (17, 2, 0, .iload 4, 0, 0, 0, 99, 0), (19, 1, 1, .lshl, 0, 0, 0, 99, 0), (20, 1, 1, .lor, 0, 0, 0, 99, 0), (21, 1, 3, .lastore, 0, 0, 0, 99, 0), (22, 3, 0, .iinc 4 1, 0, 0, 0, 99, 0), (25, 3, 2, .goto (-22), 0, 0, 0, 99, 0), (28, 1, 2, .return_, 0, 0, 0, 99, 0)]
def pgX0_wantOf : List (Nat × Nat × z_En) := [(0, 1, 0, .iconst 0, 0, 0, 0, 99, 0), (1, 1, 0, .istore_n 3, 0, 0, 0, 99, 0), (2, 1, 0, .iload_n 3, 0, 0, 0, 99, 0), (3, 1, 0, .aload_n 0, 0, 0, 0, 99, 0), (4, 3, 3, .getfield 69, 0, 3, 0, 1, 200), (7, 3, 2, .if_icmp .ge 31, 0, 0, 0, 99, 0), (10, 1, 0, .aload_n 0, 0, 0, 0, 99, 0), (11, 3, 3, .getfield 42, 0, 12, 1, 1, 228), (14, 1, 0, .iload_n 3, 0, 0, 0, 99, 0), (15, 1, 3, .iaload, 0, 0, 0, 99, 0), (16, 1, 0, .iload_n 1, 0, 0, 0, 99, 0), (17, 3, 2, .if_icmp .ne 15, 0, 0, 0, 99, 0), (20, 1, 0, .aload_n 0, 0, 0, 0, 99, 0), (21, 3, 3, .getfield 45, 0, 13, 1, 1, 233), (24, 1, 0, .iload_n 3, 0, 0, 0, 99, 0), (25, 1, 3, .iaload, 0, 0, 0, 99, 0), (26, 1, 0, .iload_n 2, 0, 0, 0, 99, 0), (27, 3, 2, .if_icmp .ne 5, 0, 0, 0, 99, 0), (30, 1, 0, .iload_n 3, 0, 0, 0, 99, 0), (31, 1, 2, .ireturn, 0, 0, 0, 99, 0), (32, 3, 0, .iinc 3 1, 0, 0, 0, 99, 0), (35, 3, 2, .goto (-33), 0, 0, 0, 99, 0), (38, 2, 0, .bipush (-9), 0, 0, 0, 99, 0), (40, 1, 2, .ireturn, 0, 0, 0, 99, 0)]
def pgX0_worthAt : List (Nat × Nat × z_En) := [(0, 1, 0, .iconst 0, 0, 0, 0, 99, 0), (1, 1, 0, .aload_n 0, 0, 0, 0, 99, 0), (2, 3, 3, .getfield 51, 0, 15, 1, 2, 2), (5, 1, 0, .iload_n 1, 0, 0, 0, 99, 0), (6, 1, 3, .iaload, 0, 0, 0, 99, 0), (7, 1, 0, .aload_n 0, 0, 0, 0, 99, 0), (8, 3, 3, .getfield 22, 0, 6, 1, 1, 215), (11, 1, 0, .aload_n 0, 0, 0, 0, 99, 0), (12, 3, 3, .getfield 45, 0, 13, 1, 1, 233), (15, 1, 0, .iload_n 1, 0, 0, 0, 99, 0), (16, 1, 3, .iaload, 0, 0, 0, 99, 0), (17, 1, 3, .iaload, 0, 0, 0, 99, 0), (18, 1, 0, .iload_n 2, 0, 0, 0, 99, 0), (19, 2, 0, .bipush 10, 0, 0, 0, 99, 0), (21, 1, 1, .idiv, 0, 0, 0, 99, 0), (22, 1, 1, .imul, 0, 0, 0, 99, 0), (23, 1, 1, .isub, 0, 0, 0, 99, 0), (24, 3, 4, .invokestatic 76, 0, 0, 10, 2, 171), (27, 1, 2, .ireturn, 0, 0, 0, 99, 0)]
def pgX0_coveredFrom : List (Nat × Nat × z_En) := [(0, 1, 0, .aload_n 0, 0, 0, 0, 99, 0), (1, 3, 3, .getfield 25, 0, 7, 1, 1, 216), (4, 1, 0, .aload_n 0, 0, 0, 0, 99, 0), (5, 3, 3, .getfield 45, 0, 13, 1, 1, 233), (8, 1, 0, .iload_n 1, 0, 0, 0, 99, 0), (9, 1, 3, .iaload, 0, 0, 0, 99, 0), (10, 1, 3, .laload, 0, 0, 0, 99, 0), (11, 1, 0, .lstore_n 3, 0, 0, 0, 99, 0), (12, 1, 0, .iload_n 2, 0, 0, 0, 99, 0), (13, 2, 0, .istore 5, 0, 0, 0, 99, 0), (15, 2, 0, .iload 5, 0, 0, 0, 99, 0), (17, 1, 0, .iload_n 2, 0, 0, 0, 99, 0), (18, 1, 0, .aload_n 0, 0, 0, 0, 99, 0), (19, 3, 3, .getfield 48, 0, 14, 1, 1, 238), (22, 1, 0, .iload_n 1, 0, 0, 0, 99, 0), (23, 1, 3, .iaload, 0, 0, 0, 99, 0), (24, 1, 1, .iadd, 0, 0, 0, 99, 0), (25, 3, 2, .if_icmp .ge 30, 0, 0, 0, 99, 0), (28, 2, 0, .iload 5, 0, 0, 0, 99, 0), (30, 2, 0, .bipush 60, 0, 0, 0, 99, 0), (32, 3, 2, .if_icmp .gt 23, 0, 0, 0, 99, 0), (35, 1, 0, .lload_n 3, 0, 0, 0, 99, 0), (36, 2, 0, .iload 5, 0, 0, 0, 99, 0), (38, 1, 1, .lshr, 0, 0, 0, 99, 0), (39, 1, 0, .lconst 1, 0, 0, 0, 99, 0), (40, 1, 1, .land, 0, 0, 0, 99, 0), (41, 1, 0, .lconst 0, 0, 0, 0, 99, 0), (42, 1, 1, .lcmp, 0, 0, 0, 99, 0), (43, 3, 2, .ifCond .eq 6, 0, 0, 0, 99, 0), (46, 2, 0, .iload 5, 0, 0, 0, 99, 0), (48, 1, 2, .ireturn, 0, 0, 0, 99, 0), (49, 3, 0, .iinc 5 1, 0, 0, 0, 99, 0), (52, 3, 2, .goto (-37), 0, 0, 0, 99, 0), (55, 2, 0, .bipush (-9), 0, 0, 0, 99, 0), (57, 1, 2, .ireturn, 0, 0, 0, 99, 0)]
def pgX0_comesAfter : List (Nat × Nat × z_En) := [(0, 1, 0, .aload_n 0, 0, 0, 0, 99, 0), (1, 3, 3, .getfield 57, 0, 17, 1, 2, 6), (4, 1, 0, .iload_n 1, 0, 0, 0, 99, 0), (5, 1, 3, .iaload, 0, 0, 0, 99, 0), (6, 2, 0, .istore 4, 0, 0, 0, 99, 0), (8, 1, 0, .iconst 0, 0, 0, 0, 99, 0), (9, 2, 0, .istore 5, 0, 0, 0, 99, 0), (11, 2, 0, .iload 4, 0, 0, 0, 99, 0), (13, 3, 2, .ifCond .eq 47, 0, 0, 0, 99, 0), (16, 2, 0, .iload 5, 0, 0, 0, 99, 0), (18, 1, 0, .aload_n 0, 0, 0, 0, 99, 0), (19, 3, 3, .getfield 69, 0, 3, 0, 1, 200), (22, 3, 2, .if_icmp .ge 38, 0, 0, 0, 99, 0), (25, 2, 0, .iload 4, 0, 0, 0, 99, 0), (27, 2, 0, .iload 5, 0, 0, 0, 99, 0), (29, 1, 1, .ishr, 0, 0, 0, 99, 0), (30, 1, 0, .iconst 1, 0, 0, 0, 99, 0), (31, 1, 1, .iand, 0, 0, 0, 99, 0), (32, 3, 2, .ifCond .eq 22, 0, 0, 0, 99, 0), (35, 1, 0, .aload_n 3, 0, 0, 0, 99, 0), (36, 2, 0, .iload 5, 0, 0, 0, 99, 0), (38, 1, 3, .iaload, 0, 0, 0, 99, 0), (39, 2, 0, .bipush (-9), 0, 0, 0, 99, 0), (41, 3, 2, .if_icmp .eq 13, 0, 0, 0, 99, 0), (44, 1, 0, .aload_n 3, 0, 0, 0, 99, 0), (45, 2, 0, .iload 5, 0, 0, 0, 99, 0), (47, 1, 3, .iaload, 0, 0, 0, 99, 0), (48, 1, 0, .iload_n 2, 0, 0, 0, 99, 0), (49, 3, 2, .if_icmp .ge 5, 0, 0, 0, 99, 0), (52, 1, 0, .iconst 1, 0, 0, 0, 99, 0), (53, 1, 2, .ireturn, 0, 0, 3, 99, 0), (54, 3, 0, .iinc 5 1, 0, 0, 0, 99, 0), (57, 3, 2, .goto (-46), 0, 0, 0, 99, 0), (60, 1, 0, .iconst 0, 0, 0, 0, 99, 0), (61, 1, 2, .ireturn, 0, 0, 3, 99, 0)]
def pgX0_latestBegin : List (Nat × Nat × z_En) := [(0, 1, 0, .aload_n 0, 0, 0, 0, 99, 0), (1, 3, 3, .getfield 32, 0, 9, 1, 1, 222), (4, 1, 0, .aload_n 0, 0, 0, 0, 99, 0), (5, 3, 3, .getfield 42, 0, 12, 1, 1, 228), (8, 1, 0, .iload_n 1, 0, 0, 0, 99, 0), (9, 1, 3, .iaload, 0, 0, 0, 99, 0), (10, 1, 3, .iaload, 0, 0, 0, 99, 0), (11, 1, 0, .aload_n 0, 0, 0, 0, 99, 0), (12, 3, 3, .getfield 9, 0, 0, 0, 1, 190), (15, 3, 4, .invokestatic 81, 0, 0, 11, 2, 144), (18, 1, 0, .aload_n 0, 0, 0, 0, 99, 0), (19, 3, 3, .getfield 48, 0, 14, 1, 1, 238), (22, 1, 0, .iload_n 1, 0, 0, 0, 99, 0), (23, 1, 3, .iaload, 0, 0, 0, 99, 0), (24, 1, 1, .isub, 0, 0, 0, 99, 0), (25, 1, 2, .ireturn, 0, 0, 0, 99, 0)]
def pgX1_init : List (Nat × Nat × z_En) := [(0, 1, 0, .aload_n 0, 0, 0, 0, 99, 0), (1, 3, 4, .invokespecial 3, 0, 0, 13, 1, 42), (4, 1, 2, .return_, 0, 0, 0, 99, 0)]
def pgX1_take : List (Nat × Nat × z_En) := [(0, 1, 0, .aload_n 0, 0, 0, 0, 99, 0), (1, 1, 0, .aload_n 1, 0, 0, 0, 99, 0), (2, 3, 3, .putfield 9, 1, 0, 1, 1, 43), (5, 1, 0, .aload_n 0, 0, 0, 0, 99, 0), (6, 1, 0, .iload_n 2, 0, 0, 0, 99, 0), (7, 3, 3, .putfield 15, 1, 1, 0, 1, 44), (10, 1, 0, .aload_n 0, 0, 0, 0, 99, 0), (11, 1, 0, .iconst 0, 0, 0, 0, 99, 0), (12, 3, 3, .putfield 19, 1, 2, 0, 1, 45), (15, 1, 0, .aload_n 0, 0, 0, 0, 99, 0), (16, 1, 0, .iconst 0, 0, 0, 0, 99, 0), (17, 3, 3, .putfield 22, 1, 4, 0, 1, 47), (20, 1, 0, .aload_n 0, 0, 0, 0, 99, 0), (21, 1, 0, .iconst 0, 0, 0, 0, 99, 0), (22, 3, 3, .putfield 25, 1, 5, 0, 1, 48), (25, 1, 0, .aload_n 0, 0, 0, 0, 99, 0), (26, 1, 0, .aload_n 3, 0, 0, 0, 99, 0), (27, 3, 3, .putfield 28, 1, 6, 1, 1, 49), (30, 1, 0, .aload_n 0, 0, 0, 0, 99, 0), (31, 3, 3, .getfield 28, 1, 6, 1, 1, 49), (34, 3, 4, .invokevirtual 32, 1, 1, 0, 3, 203), (37, 1, 0, .iconst 1, 0, 0, 0, 99, 0), (38, 2, 0, .istore 4, 0, 0, 0, 99, 0), (40, 1, 0, .iconst 0, 0, 0, 0, 99, 0), (41, 2, 0, .istore 5, 0, 0, 0, 99, 0), (43, 2, 0, .iload 5, 0, 0, 0, 99, 0), (45, 1, 0, .aload_n 0, 0, 0, 0, 99, 0), (46, 3, 3, .getfield 15, 1, 1, 0, 1, 44), (49, 3, 2, .if_icmp .ge 148, 0, 0, 0, 99, 0), (52, 1, 0, .aload_n 0, 0, 0, 0, 99, 0), (53, 3, 3, .getfield 19, 1, 2, 0, 1, 45), (56, 1, 0, .aload_n 0, 0, 0, 0, 99, 0), (57, 3, 3, .getfield 15, 1, 1, 0, 1, 44), (60, 3, 2, .if_icmp .ge 137, 0, 0, 0, 99, 0), (63, 2, 0, .iload 4, 0, 0, 0, 99, 0), (65, 3, 2, .ifCond .eq 132, 0, 0, 0, 99, 0), (68, 1, 0, .aload_n 0, 0, 0, 0, 99, 0), (69, 3, 4, .invokevirtual 37, 20, 1, 0, 3, 207), (72, 60, 2, .lookupswitch 116 #[(32, 60), (99, 107), (109, 71), (110, 98), (112, 80), (114, 89)], 0, 0, 0, 99, 0), (132, 1, 0, .aload_n 0, 0, 0, 0, 99, 0), (133, 2, 0, .bipush 32, 0, 0, 0, 99, 0), (135, 3, 4, .invokevirtual 41, 21, 2, 0, 3, 211), (138, 2, 0, .istore 4, 0, 0, 0, 99, 0), (140, 3, 2, .goto 51, 0, 0, 0, 99, 0), (143, 1, 0, .aload_n 0, 0, 0, 0, 99, 0), (144, 3, 4, .invokevirtual 45, 25, 1, 0, 3, 215), (147, 2, 0, .istore 4, 0, 0, 0, 99, 0), (149, 3, 2, .goto 42, 0, 0, 0, 99, 0), (152, 1, 0, .aload_n 0, 0, 0, 0, 99, 0), (153, 3, 4, .invokevirtual 49, 26, 1, 0, 3, 227), (156, 2, 0, .istore 4, 0, 0, 0, 99, 0), (158, 3, 2, .goto 33, 0, 0, 0, 99, 0), (161, 1, 0, .aload_n 0, 0, 0, 0, 99, 0), (162, 3, 4, .invokevirtual 52, 27, 1, 0, 3, 239), (165, 2, 0, .istore 4, 0, 0, 0, 99, 0), (167, 3, 2, .goto 24, 0, 0, 0, 99, 0), (170, 1, 0, .aload_n 0, 0, 0, 0, 99, 0), (171, 3, 4, .invokevirtual 55, 29, 1, 0, 4, 20), (174, 2, 0, .istore 4, 0, 0, 0, 99, 0), (176, 3, 2, .goto 15, 0, 0, 0, 99, 0), (179, 1, 0, .aload_n 0, 0, 0, 0, 99, 0), (180, 3, 4, .invokevirtual 58, 30, 1, 0, 4, 29), (183, 2, 0, .istore 4, 0, 0, 0, 99, 0), (185, 3, 2, .goto 6, 0, 0, 0, 99, 0), (188, 1, 0, .iconst 0, 0, 0, 0, 99, 0), (189, 2, 0, .istore 4, 0, 0, 0, 99, 0), (191, 3, 0, .iinc 5 1, 0, 0, 0, 99, 0), (194, 3, 2, .goto (-151), 0, 0, 0, 99, 0), (197, 2, 0, .iload 4, 0, 0, 0, 99, 0), (199, 3, 2, .ifCond .eq 8, 0, 0, 0, 99, 0), (202, 2, 0, .bipush (-9), 0, 0, 0, 99, 0), (204, 3, 2, .goto 7, 0, 0, 0, 99, 0), (207, 1, 0, .aload_n 0, 0, 0, 0, 99, 0), (208, 3, 3, .getfield 19, 1, 2, 0, 1, 45), (211, 1, 2, .ireturn, 0, 0, 0, 99, 0)]
def pgX1_look : List (Nat × Nat × z_En) := [(0, 1, 0, .aload_n 0, 0, 0, 0, 99, 0), (1, 3, 3, .getfield 19, 1, 2, 0, 1, 45), (4, 1, 0, .aload_n 0, 0, 0, 0, 99, 0), (5, 3, 3, .getfield 15, 1, 1, 0, 1, 44), (8, 3, 2, .if_icmp .ge 27, 0, 0, 0, 99, 0), (11, 1, 0, .aload_n 0, 0, 0, 0, 99, 0), (12, 3, 3, .getfield 19, 1, 2, 0, 1, 45), (15, 1, 0, .aload_n 0, 0, 0, 0, 99, 0), (16, 3, 3, .getfield 9, 1, 0, 1, 1, 43), (19, 1, 3, .arraylength, 10, 0, 0, 99, 0), (20, 3, 2, .if_icmp .ge 15, 0, 0, 0, 99, 0), (23, 1, 0, .aload_n 0, 0, 0, 0, 99, 0), (24, 3, 3, .getfield 9, 1, 0, 1, 1, 43), (27, 1, 0, .aload_n 0, 0, 0, 0, 99, 0), (28, 3, 3, .getfield 19, 1, 2, 0, 1, 45), (31, 1, 3, .iaload, 0, 0, 0, 99, 0), (32, 3, 2, .goto 6, 0, 0, 0, 99, 0), (35, 3, 0, .sipush 1000, 0, 0, 0, 99, 0), (38, 1, 2, .ireturn, 0, 0, 0, 99, 0)]
def pgX1_takeSign : List (Nat × Nat × z_En) := [(0, 1, 0, .aload_n 0, 0, 0, 0, 99, 0), (1, 3, 4, .invokevirtual 37, 20, 1, 0, 3, 207), (4, 1, 0, .iload_n 1, 0, 0, 0, 99, 0), (5, 3, 2, .if_icmp .eq 5, 0, 0, 0, 99, 0), (8, 1, 0, .iconst 0, 0, 0, 0, 99, 0), (9, 1, 2, .ireturn, 0, 0, 3, 99, 0), (10, 1, 0, .aload_n 0, 0, 0, 0, 99, 0), (11, 1, 0, .dup, 0, 0, 0, 99, 0), (12, 3, 3, .getfield 19, 1, 2, 0, 1, 45), (15, 1, 0, .iconst 1, 0, 0, 0, 99, 0), (16, 1, 1, .iadd, 0, 0, 0, 99, 0), (17, 3, 3, .putfield 19, 1, 2, 0, 1, 45), (20, 1, 0, .iconst 1, 0, 0, 0, 99, 0), (21, 1, 2, .ireturn, 0, 0, 3, 99, 0)]
def pgX1_figure : List (Nat × Nat × z_En) := [(0, 1, 0, .aload_n 0, 0, 0, 0, 99, 0), (1, 3, 4, .invokevirtual 37, 20, 1, 0, 3, 207), (4, 1, 0, .istore_n 1, 0, 0, 0, 99, 0), (5, 1, 0, .iload_n 1, 0, 0, 0, 99, 0), (6, 2, 0, .bipush 48, 0, 0, 0, 99, 0), (8, 3, 2, .if_icmp .lt 16, 0, 0, 0, 99, 0), (11, 1, 0, .iload_n 1, 0, 0, 0, 99, 0), (12, 2, 0, .bipush 57, 0, 0, 0, 99, 0), (14, 3, 2, .if_icmp .gt 10, 0, 0, 0, 99, 0), (17, 1, 0, .iload_n 1, 0, 0, 0, 99, 0), (18, 2, 0, .bipush 48, 0, 0, 0, 99, 0), (20, 1, 1, .isub, 0, 0, 0, 99, 0), (21, 3, 2, .goto 5, 0, 0, 0, 99, 0), (24, 2, 0, .bipush (-9), 0, 0, 0, 99, 0), (26, 1, 2, .ireturn, 0, 0, 0, 99, 0)]
def pgX1_takeFigure : List (Nat × Nat × z_En) := [(0, 1, 0, .aload_n 0, 0, 0, 0, 99, 0), (1, 1, 0, .aload_n 0, 0, 0, 0, 99, 0), (2, 3, 4, .invokevirtual 61, 22, 1, 0, 3, 223), (5, 3, 3, .putfield 64, 1, 3, 0, 1, 46), (8, 1, 0, .aload_n 0, 0, 0, 0, 99, 0), (9, 3, 3, .getfield 64, 1, 3, 0, 1, 46), (12, 2, 0, .bipush (-9), 0, 0, 0, 99, 0), (14, 3, 2, .if_icmp .eq 19, 0, 0, 0, 99, 0), (17, 1, 0, .aload_n 0, 0, 0, 0, 99, 0), (18, 3, 3, .getfield 64, 1, 3, 0, 1, 46), (21, 1, 0, .iload_n 1, 0, 0, 0, 99, 0), (22, 3, 2, .if_icmp .lt 11, 0, 0, 0, 99, 0), (25, 1, 0, .aload_n 0, 0, 0, 0, 99, 0), (26, 3, 3, .getfield 64, 1, 3, 0, 1, 46), (29, 1, 0, .iload_n 2, 0, 0, 0, 99, 0), (30, 3, 2, .if_icmp .le 5, 0, 0, 0, 99, 0), (33, 1, 0, .iconst 0, 0, 0, 0, 99, 0), (34, 1, 2, .ireturn, 0, 0, 3, 99, 0), (35, 1, 0, .aload_n 0, 0, 0, 0, 99, 0), (36, 1, 0, .dup, 0, 0, 0, 99, 0), (37, 3, 3, .getfield 19, 1, 2, 0, 1, 45), (40, 1, 0, .iconst 1, 0, 0, 0, 99, 0), (41, 1, 1, .iadd, 0, 0, 0, 99, 0), (42, 3, 3, .putfield 19, 1, 2, 0, 1, 45), (45, 1, 0, .iconst 1, 0, 0, 0, 99, 0), (46, 1, 2, .ireturn, 0, 0, 3, 99, 0)]
def pgX1_takeMinute : List (Nat × Nat × z_En) := [(0, 1, 0, .aload_n 0, 0, 0, 0, 99, 0), (1, 1, 0, .aload_n 0, 0, 0, 0, 99, 0), (2, 3, 4, .invokevirtual 61, 22, 1, 0, 3, 223), (5, 3, 3, .putfield 64, 1, 3, 0, 1, 46), (8, 1, 0, .aload_n 0, 0, 0, 0, 99, 0), (9, 3, 3, .getfield 64, 1, 3, 0, 1, 46), (12, 2, 0, .bipush (-9), 0, 0, 0, 99, 0), (14, 3, 2, .if_icmp .ne 5, 0, 0, 0, 99, 0), (17, 1, 0, .iconst 0, 0, 0, 0, 99, 0), (18, 1, 2, .ireturn, 0, 0, 3, 99, 0), (19, 1, 0, .aload_n 0, 0, 0, 0, 99, 0), (20, 1, 0, .dup, 0, 0, 0, 99, 0), (21, 3, 3, .getfield 19, 1, 2, 0, 1, 45), (24, 1, 0, .iconst 1, 0, 0, 0, 99, 0), (25, 1, 1, .iadd, 0, 0, 0, 99, 0), (26, 3, 3, .putfield 19, 1, 2, 0, 1, 45), (29, 1, 0, .aload_n 0, 0, 0, 0, 99, 0), (30, 3, 4, .invokevirtual 61, 22, 1, 0, 3, 223), (33, 1, 0, .istore_n 3, 0, 0, 0, 99, 0), (34, 1, 0, .iload_n 3, 0, 0, 0, 99, 0), (35, 2, 0, .bipush (-9), 0, 0, 0, 99, 0), (37, 3, 2, .if_icmp .eq 26, 0, 0, 0, 99, 0), (40, 1, 0, .aload_n 0, 0, 0, 0, 99, 0), (41, 1, 0, .aload_n 0, 0, 0, 0, 99, 0), (42, 3, 3, .getfield 64, 1, 3, 0, 1, 46), (45, 2, 0, .bipush 10, 0, 0, 0, 99, 0), (47, 1, 1, .imul, 0, 0, 0, 99, 0), (48, 1, 0, .iload_n 3, 0, 0, 0, 99, 0), (49, 1, 1, .iadd, 0, 0, 0, 99, 0), (50, 3, 3, .putfield 64, 1, 3, 0, 1, 46), (53, 1, 0, .aload_n 0, 0, 0, 0, 99, 0), (54, 1, 0, .dup, 0, 0, 0, 99, 0), (55, 3, 3, .getfield 19, 1, 2, 0, 1, 45), (58, 1, 0, .iconst 1, 0, 0, 0, 99, 0), (59, 1, 1, .iadd, 0, 0, 0, 99, 0), (60, 3, 3, .putfield 19, 1, 2, 0, 1, 45), (63, 1, 0, .aload_n 0, 0, 0, 0, 99, 0), (64, 3, 3, .getfield 64, 1, 3, 0, 1, 46), (67, 1, 0, .iload_n 1, 0, 0, 0, 99, 0), (68, 3, 2, .if_icmp .lt 15, 0, 0, 0, 99, 0), (71, 1, 0, .aload_n 0, 0, 0, 0, 99, 0), (72, 3, 3, .getfield 64, 1, 3, 0, 1, 46), (75, 1, 0, .iload_n 2, 0, 0, 0, 99, 0), (76, 3, 2, .if_icmp .gt 7, 0, 0, 0, 99, 0), (79, 1, 0, .iconst 1, 0, 0, 0, 99, 0), (80, 3, 2, .goto 4, 0, 0, 0, 99, 0), (83, 1, 0, .iconst 0, 0, 0, 0, 99, 0), (84, 1, 2, .ireturn, 0, 0, 3, 99, 0)]
def pgX1_takeLast : List (Nat × Nat × z_En) := [(0, 1, 0, .aload_n 0, 0, 0, 0, 99, 0), (1, 1, 0, .dup, 0, 0, 0, 99, 0), (2, 3, 3, .getfield 19, 1, 2, 0, 1, 45), (5, 1, 0, .iconst 1, 0, 0, 0, 99, 0), (6, 1, 1, .iadd, 0, 0, 0, 99, 0), (7, 3, 3, .putfield 19, 1, 2, 0, 1, 45), (10, 1, 0, .aload_n 0, 0, 0, 0, 99, 0), (11, 1, 0, .iconst 1, 0, 0, 0, 99, 0), (12, 2, 0, .bipush 60, 0, 0, 0, 99, 0), (14, 3, 4, .invokevirtual 67, 24, 3, 0, 3, 219), (17, 3, 2, .ifCond .ne 5, 0, 0, 0, 99, 0), (20, 1, 0, .iconst 0, 0, 0, 0, 99, 0), (21, 1, 2, .ireturn, 0, 0, 3, 99, 0), (22, 1, 0, .aload_n 0, 0, 0, 0, 99, 0), (23, 3, 3, .getfield 28, 1, 6, 1, 1, 49), (26, 1, 0, .aload_n 0, 0, 0, 0, 99, 0), (27, 3, 3, .getfield 64, 1, 3, 0, 1, 46), (30, 3, 3, .putfield 71, 0, 0, 0, 1, 192), (33, 1, 0, .iconst 1, 0, 0, 0, 99, 0), (34, 1, 2, .ireturn, 0, 0, 3, 99, 0)]
def pgX1_takePart : List (Nat × Nat × z_En) := [(0, 1, 0, .aload_n 0, 0, 0, 0, 99, 0), (1, 3, 3, .getfield 28, 1, 6, 1, 1, 49), (4, 3, 3, .getfield 74, 0, 1, 0, 1, 194), (7, 2, 0, .bipush 6, 0, 0, 0, 99, 0), (9, 3, 2, .if_icmp .lt 5, 0, 0, 0, 99, 0), (12, 1, 0, .iconst 0, 0, 0, 0, 99, 0), (13, 1, 2, .ireturn, 0, 0, 3, 99, 0), (14, 1, 0, .aload_n 0, 0, 0, 0, 99, 0), (15, 1, 0, .dup, 0, 0, 0, 99, 0), (16, 3, 3, .getfield 19, 1, 2, 0, 1, 45), (19, 1, 0, .iconst 1, 0, 0, 0, 99, 0), (20, 1, 1, .iadd, 0, 0, 0, 99, 0), (21, 3, 3, .putfield 19, 1, 2, 0, 1, 45), (24, 1, 0, .aload_n 0, 0, 0, 0, 99, 0), (25, 1, 0, .iconst 1, 0, 0, 0, 99, 0), (26, 1, 0, .iconst 2, 0, 0, 0, 99, 0), (27, 3, 4, .invokevirtual 77, 23, 3, 0, 3, 231), (30, 3, 2, .ifCond .ne 5, 0, 0, 0, 99, 0), (33, 1, 0, .iconst 0, 0, 0, 0, 99, 0), (34, 1, 2, .ireturn, 0, 0, 3, 99, 0), (35, 1, 0, .aload_n 0, 0, 0, 0, 99, 0), (36, 3, 3, .getfield 64, 1, 3, 0, 1, 46), (39, 1, 0, .istore_n 1, 0, 0, 0, 99, 0), (40, 1, 0, .iconst 0, 0, 0, 0, 99, 0), (41, 1, 0, .istore_n 2, 0, 0, 0, 99, 0), (42, 1, 0, .iconst 0, 0, 0, 0, 99, 0), (43, 1, 0, .istore_n 3, 0, 0, 0, 99, 0), (44, 1, 0, .aload_n 0, 0, 0, 0, 99, 0), (45, 2, 0, .bipush 58, 0, 0, 0, 99, 0), (47, 3, 4, .invokevirtual 41, 21, 2, 0, 3, 211), (50, 3, 2, .ifCond .eq 20, 0, 0, 0, 99, 0), (53, 1, 0, .aload_n 0, 0, 0, 0, 99, 0), (54, 1, 0, .iconst 0, 0, 0, 0, 99, 0), (55, 2, 0, .bipush 59, 0, 0, 0, 99, 0), (57, 3, 4, .invokevirtual 67, 24, 3, 0, 3, 219), (60, 3, 2, .ifCond .ne 5, 0, 0, 0, 99, 0), (63, 1, 0, .iconst 0, 0, 0, 0, 99, 0), (64, 1, 2, .ireturn, 0, 0, 3, 99, 0), (65, 1, 0, .aload_n 0, 0, 0, 0, 99, 0), (66, 3, 3, .getfield 64, 1, 3, 0, 1, 46), (69, 1, 0, .istore_n 2, 0, 0, 0, 99, 0), (70, 1, 0, .aload_n 0, 0, 0, 0, 99, 0), (71, 2, 0, .bipush 115, 0, 0, 0, 99, 0), (73, 3, 4, .invokevirtual 41, 21, 2, 0, 3, 211), (76, 3, 2, .ifCond .eq 20, 0, 0, 0, 99, 0), (79, 1, 0, .aload_n 0, 0, 0, 0, 99, 0), (80, 1, 0, .iconst 0, 0, 0, 0, 99, 0), (81, 2, 0, .bipush 9, 0, 0, 0, 99, 0), (83, 3, 4, .invokevirtual 77, 23, 3, 0, 3, 231), (86, 3, 2, .ifCond .ne 5, 0, 0, 0, 99, 0), (89, 1, 0, .iconst 0, 0, 0, 0, 99, 0), (90, 1, 2, .ireturn, 0, 0, 3, 99, 0), (91, 1, 0, .aload_n 0, 0, 0, 0, 99, 0), (92, 3, 3, .getfield 64, 1, 3, 0, 1, 46), (95, 1, 0, .istore_n 3, 0, 0, 0, 99, 0), (96, 1, 0, .aload_n 0, 0, 0, 0, 99, 0), (97, 3, 3, .getfield 28, 1, 6, 1, 1, 49), (100, 1, 0, .iload_n 1, 0, 0, 0, 99, 0), (101, 1, 0, .iload_n 2, 0, 0, 0, 99, 0), (102, 1, 0, .iload_n 3, 0, 0, 0, 99, 0), (103, 3, 4, .invokevirtual 80, 8, 4, 0, 3, 235), (106, 1, 0, .iconst 1, 0, 0, 0, 99, 0), (107, 1, 2, .ireturn, 0, 0, 3, 99, 0)]
def pgX1_takeReader : List (Nat × Nat × z_En) := [(0, 1, 0, .aload_n 0, 0, 0, 0, 99, 0), (1, 3, 3, .getfield 28, 1, 6, 1, 1, 49), (4, 3, 3, .getfield 84, 0, 2, 0, 1, 198), (7, 2, 0, .bipush 8, 0, 0, 0, 99, 0), (9, 3, 2, .if_icmp .lt 5, 0, 0, 0, 99, 0), (12, 1, 0, .iconst 0, 0, 0, 0, 99, 0), (13, 1, 2, .ireturn, 0, 0, 3, 99, 0), (14, 1, 0, .aload_n 0, 0, 0, 0, 99, 0), (15, 1, 0, .dup, 0, 0, 0, 99, 0), (16, 3, 3, .getfield 19, 1, 2, 0, 1, 45), (19, 1, 0, .iconst 1, 0, 0, 0, 99, 0), (20, 1, 1, .iadd, 0, 0, 0, 99, 0), (21, 3, 3, .putfield 19, 1, 2, 0, 1, 45), (24, 1, 0, .aload_n 0, 0, 0, 0, 99, 0), (25, 1, 0, .iconst 0, 0, 0, 0, 99, 0), (26, 2, 0, .bipush 60, 0, 0, 0, 99, 0), (28, 3, 4, .invokevirtual 67, 24, 3, 0, 3, 219), (31, 3, 2, .ifCond .ne 5, 0, 0, 0, 99, 0), (34, 1, 0, .iconst 0, 0, 0, 0, 99, 0), (35, 1, 2, .ireturn, 0, 0, 3, 99, 0), (36, 1, 0, .aload_n 0, 0, 0, 0, 99, 0), (37, 3, 3, .getfield 64, 1, 3, 0, 1, 46), (40, 1, 0, .istore_n 1, 0, 0, 0, 99, 0), (41, 1, 0, .aload_n 0, 0, 0, 0, 99, 0), (42, 2, 0, .bipush 45, 0, 0, 0, 99, 0), (44, 3, 4, .invokevirtual 41, 21, 2, 0, 3, 211), (47, 3, 2, .ifCond .eq 15, 0, 0, 0, 99, 0), (50, 1, 0, .aload_n 0, 0, 0, 0, 99, 0), (51, 1, 0, .iload_n 1, 0, 0, 0, 99, 0), (52, 1, 0, .iconst 1, 0, 0, 0, 99, 0), (53, 1, 1, .iadd, 0, 0, 0, 99, 0), (54, 2, 0, .bipush 60, 0, 0, 0, 99, 0), (56, 3, 4, .invokevirtual 67, 24, 3, 0, 3, 219), (59, 3, 2, .ifCond .ne 5, 0, 0, 0, 99, 0), (62, 1, 0, .iconst 0, 0, 0, 0, 99, 0), (63, 1, 2, .ireturn, 0, 0, 3, 99, 0), (64, 1, 0, .aload_n 0, 0, 0, 0, 99, 0), (65, 3, 3, .getfield 64, 1, 3, 0, 1, 46), (68, 1, 0, .istore_n 2, 0, 0, 0, 99, 0), (69, 1, 0, .aload_n 0, 0, 0, 0, 99, 0), (70, 2, 0, .bipush 40, 0, 0, 0, 99, 0), (72, 3, 4, .invokevirtual 41, 21, 2, 0, 3, 211), (75, 3, 2, .ifCond .ne 5, 0, 0, 0, 99, 0), (78, 1, 0, .iconst 0, 0, 0, 0, 99, 0), (79, 1, 2, .ireturn, 0, 0, 3, 99, 0), (80, 1, 0, .aload_n 0, 0, 0, 0, 99, 0), (81, 3, 3, .getfield 28, 1, 6, 1, 1, 49), (84, 1, 0, .iload_n 1, 0, 0, 0, 99, 0), (85, 1, 0, .iload_n 2, 0, 0, 0, 99, 0), (86, 1, 0, .aload_n 0, 0, 0, 0, 99, 0), (87, 2, 0, .bipush 33, 0, 0, 0, 99, 0), (89, 3, 4, .invokevirtual 41, 21, 2, 0, 3, 211), (92, 3, 4, .invokevirtual 87, 9, 4, 0, 4, 3), (95, 1, 0, .iconst 0, 0, 0, 0, 99, 0), (96, 1, 0, .istore_n 3, 0, 0, 0, 99, 0), (97, 1, 0, .iload_n 3, 0, 0, 0, 99, 0), (98, 2, 0, .bipush 6, 0, 0, 0, 99, 0), (100, 3, 2, .if_icmp .gt 30, 0, 0, 0, 99, 0), (103, 1, 0, .aload_n 0, 0, 0, 0, 99, 0), (104, 3, 4, .invokevirtual 91, 28, 1, 0, 4, 7), (107, 3, 2, .ifCond .ne 5, 0, 0, 0, 99, 0), (110, 1, 0, .iconst 0, 0, 0, 0, 99, 0), (111, 1, 2, .ireturn, 0, 0, 3, 99, 0), (112, 1, 0, .aload_n 0, 0, 0, 0, 99, 0), (113, 2, 0, .bipush 44, 0, 0, 0, 99, 0), (115, 3, 4, .invokevirtual 41, 21, 2, 0, 3, 211), (118, 3, 2, .ifCond .ne 6, 0, 0, 0, 99, 0), (121, 3, 2, .goto 9, 0, 0, 0, 99, 0), (124, 3, 0, .iinc 3 1, 0, 0, 0, 99, 0), (127, 3, 2, .goto (-30), 0, 0, 0, 99, 0), (130, 1, 0, .aload_n 0, 0, 0, 0, 99, 0), (131, 2, 0, .bipush 41, 0, 0, 0, 99, 0), (133, 3, 4, .invokevirtual 41, 21, 2, 0, 3, 211), (136, 1, 2, .ireturn, 0, 0, 3, 99, 0)]
def pgX1_takeWant : List (Nat × Nat × z_En) := [(0, 1, 0, .aload_n 0, 0, 0, 0, 99, 0), (1, 3, 4, .invokevirtual 61, 22, 1, 0, 3, 223), (4, 1, 0, .istore_n 1, 0, 0, 0, 99, 0), (5, 1, 0, .aload_n 0, 0, 0, 0, 99, 0), (6, 3, 3, .getfield 28, 1, 6, 1, 1, 49), (9, 3, 3, .getfield 94, 0, 3, 0, 1, 203), (12, 2, 0, .bipush 24, 0, 0, 0, 99, 0), (14, 3, 2, .if_icmp .ge 36, 0, 0, 0, 99, 0), (17, 1, 0, .aload_n 0, 0, 0, 0, 99, 0), (18, 3, 3, .getfield 28, 1, 6, 1, 1, 49), (21, 1, 0, .iload_n 1, 0, 0, 0, 99, 0), (22, 3, 4, .invokevirtual 97, 2, 2, 0, 4, 11), (25, 3, 2, .ifCond .eq 25, 0, 0, 0, 99, 0), (28, 1, 0, .aload_n 0, 0, 0, 0, 99, 0), (29, 3, 3, .getfield 28, 1, 6, 1, 1, 49), (32, 1, 0, .aload_n 0, 0, 0, 0, 99, 0), (33, 3, 3, .getfield 28, 1, 6, 1, 1, 49), (36, 3, 3, .getfield 84, 0, 2, 0, 1, 198), (39, 1, 0, .iconst 1, 0, 0, 0, 99, 0), (40, 1, 1, .isub, 0, 0, 0, 99, 0), (41, 1, 0, .iload_n 1, 0, 0, 0, 99, 0), (42, 3, 4, .invokevirtual 101, 13, 3, 0, 4, 12), (45, 2, 0, .bipush (-9), 0, 0, 0, 99, 0), (47, 3, 2, .if_icmp .eq 5, 0, 0, 0, 99, 0), (50, 1, 0, .iconst 0, 0, 0, 0, 99, 0), (51, 1, 2, .ireturn, 0, 0, 3, 99, 0), (52, 1, 0, .aload_n 0, 0, 0, 0, 99, 0), (53, 1, 0, .dup, 0, 0, 0, 99, 0), (54, 3, 3, .getfield 19, 1, 2, 0, 1, 45), (57, 1, 0, .iconst 1, 0, 0, 0, 99, 0), (58, 1, 1, .iadd, 0, 0, 0, 99, 0), (59, 3, 3, .putfield 19, 1, 2, 0, 1, 45), (62, 1, 0, .aload_n 0, 0, 0, 0, 99, 0), (63, 2, 0, .bipush 42, 0, 0, 0, 99, 0), (65, 3, 4, .invokevirtual 41, 21, 2, 0, 3, 211), (68, 3, 2, .ifCond .eq 13, 0, 0, 0, 99, 0), (71, 1, 0, .aload_n 0, 0, 0, 0, 99, 0), (72, 1, 0, .iconst 1, 0, 0, 0, 99, 0), (73, 2, 0, .bipush 20, 0, 0, 0, 99, 0), (75, 3, 4, .invokevirtual 67, 24, 3, 0, 3, 219), (78, 3, 2, .ifCond .ne 5, 0, 0, 0, 99, 0), (81, 1, 0, .iconst 0, 0, 0, 0, 99, 0), (82, 1, 2, .ireturn, 0, 0, 3, 99, 0), (83, 1, 0, .aload_n 0, 0, 0, 0, 99, 0), (84, 3, 3, .getfield 64, 1, 3, 0, 1, 46), (87, 1, 0, .istore_n 2, 0, 0, 0, 99, 0), (88, 1, 0, .aload_n 0, 0, 0, 0, 99, 0), (89, 2, 0, .bipush 61, 0, 0, 0, 99, 0), (91, 3, 4, .invokevirtual 41, 21, 2, 0, 3, 211), (94, 3, 2, .ifCond .eq 13, 0, 0, 0, 99, 0), (97, 1, 0, .aload_n 0, 0, 0, 0, 99, 0), (98, 1, 0, .iconst 1, 0, 0, 0, 99, 0), (99, 2, 0, .bipush 9, 0, 0, 0, 99, 0), (101, 3, 4, .invokevirtual 77, 23, 3, 0, 3, 231), (104, 3, 2, .ifCond .ne 5, 0, 0, 0, 99, 0), (107, 1, 0, .iconst 0, 0, 0, 0, 99, 0), (108, 1, 2, .ireturn, 0, 0, 3, 99, 0), (109, 1, 0, .aload_n 0, 0, 0, 0, 99, 0), (110, 3, 3, .getfield 28, 1, 6, 1, 1, 49), (113, 1, 0, .iload_n 1, 0, 0, 0, 99, 0), (114, 1, 0, .iload_n 2, 0, 0, 0, 99, 0), (115, 1, 0, .aload_n 0, 0, 0, 0, 99, 0), (116, 3, 3, .getfield 64, 1, 3, 0, 1, 46), (119, 3, 4, .invokevirtual 105, 10, 4, 0, 4, 16), (122, 1, 0, .iconst 1, 0, 0, 0, 99, 0), (123, 1, 2, .ireturn, 0, 0, 3, 99, 0)]
def pgX1_takeNot : List (Nat × Nat × z_En) := [(0, 1, 0, .aload_n 0, 0, 0, 0, 99, 0), (1, 3, 3, .getfield 22, 1, 4, 0, 1, 47), (4, 2, 0, .bipush 8, 0, 0, 0, 99, 0), (6, 3, 2, .if_icmp .lt 5, 0, 0, 0, 99, 0), (9, 1, 0, .iconst 0, 0, 0, 0, 99, 0), (10, 1, 2, .ireturn, 0, 0, 3, 99, 0), (11, 1, 0, .aload_n 0, 0, 0, 0, 99, 0), (12, 1, 0, .dup, 0, 0, 0, 99, 0), (13, 3, 3, .getfield 19, 1, 2, 0, 1, 45), (16, 1, 0, .iconst 1, 0, 0, 0, 99, 0), (17, 1, 1, .iadd, 0, 0, 0, 99, 0), (18, 3, 3, .putfield 19, 1, 2, 0, 1, 45), (21, 1, 0, .aload_n 0, 0, 0, 0, 99, 0), (22, 1, 0, .iconst 0, 0, 0, 0, 99, 0), (23, 1, 0, .aload_n 0, 0, 0, 0, 99, 0), (24, 3, 3, .getfield 28, 1, 6, 1, 1, 49), (27, 3, 3, .getfield 84, 0, 2, 0, 1, 198), (30, 1, 0, .iconst 1, 0, 0, 0, 99, 0), (31, 1, 1, .isub, 0, 0, 0, 99, 0), (32, 3, 4, .invokevirtual 77, 23, 3, 0, 3, 231), (35, 3, 2, .ifCond .ne 5, 0, 0, 0, 99, 0), (38, 1, 0, .iconst 0, 0, 0, 0, 99, 0), (39, 1, 2, .ireturn, 0, 0, 3, 99, 0), (40, 1, 0, .aload_n 0, 0, 0, 0, 99, 0), (41, 3, 3, .getfield 64, 1, 3, 0, 1, 46), (44, 1, 0, .istore_n 1, 0, 0, 0, 99, 0), (45, 1, 0, .aload_n 0, 0, 0, 0, 99, 0), (46, 2, 0, .bipush 47, 0, 0, 0, 99, 0), (48, 3, 4, .invokevirtual 41, 21, 2, 0, 3, 211), (51, 3, 2, .ifCond .eq 28, 0, 0, 0, 99, 0), (54, 1, 0, .aload_n 0, 0, 0, 0, 99, 0), (55, 3, 4, .invokevirtual 61, 22, 1, 0, 3, 223), (58, 1, 0, .iload_n 1, 0, 0, 0, 99, 0), (59, 3, 2, .if_icmp .eq 20, 0, 0, 0, 99, 0), (62, 1, 0, .aload_n 0, 0, 0, 0, 99, 0), (63, 1, 0, .iconst 0, 0, 0, 0, 99, 0), (64, 1, 0, .aload_n 0, 0, 0, 0, 99, 0), (65, 3, 3, .getfield 28, 1, 6, 1, 1, 49), (68, 3, 3, .getfield 84, 0, 2, 0, 1, 198), (71, 1, 0, .iconst 1, 0, 0, 0, 99, 0), (72, 1, 1, .isub, 0, 0, 0, 99, 0), (73, 3, 4, .invokevirtual 77, 23, 3, 0, 3, 231), (76, 3, 2, .ifCond .ne 5, 0, 0, 0, 99, 0), (79, 1, 0, .iconst 0, 0, 0, 0, 99, 0), (80, 1, 2, .ireturn, 0, 0, 3, 99, 0), (81, 1, 0, .aload_n 0, 0, 0, 0, 99, 0), (82, 3, 3, .getfield 64, 1, 3, 0, 1, 46), (85, 1, 0, .istore_n 2, 0, 0, 0, 99, 0), (86, 1, 0, .aload_n 0, 0, 0, 0, 99, 0), (87, 2, 0, .bipush 64, 0, 0, 0, 99, 0), (89, 3, 4, .invokevirtual 41, 21, 2, 0, 3, 211), (92, 3, 2, .ifCond .eq 20, 0, 0, 0, 99, 0), (95, 1, 0, .aload_n 0, 0, 0, 0, 99, 0), (96, 1, 0, .iconst 0, 0, 0, 0, 99, 0), (97, 1, 0, .aload_n 0, 0, 0, 0, 99, 0), (98, 3, 3, .getfield 28, 1, 6, 1, 1, 49), (101, 3, 3, .getfield 74, 0, 1, 0, 1, 194), (104, 1, 0, .iconst 1, 0, 0, 0, 99, 0), (105, 1, 1, .isub, 0, 0, 0, 99, 0), (106, 3, 4, .invokevirtual 77, 23, 3, 0, 3, 231), (109, 3, 2, .ifCond .ne 5, 0, 0, 0, 99, 0), (112, 1, 0, .iconst 0, 0, 0, 0, 99, 0), (113, 1, 2, .ireturn, 0, 0, 3, 99, 0), (114, 1, 0, .aload_n 0, 0, 0, 0, 99, 0), (115, 3, 3, .getfield 28, 1, 6, 1, 1, 49), (118, 1, 0, .iload_n 1, 0, 0, 0, 99, 0), (119, 1, 0, .iload_n 2, 0, 0, 0, 99, 0), (120, 1, 0, .aload_n 0, 0, 0, 0, 99, 0), (121, 3, 3, .getfield 64, 1, 3, 0, 1, 46), (124, 3, 4, .invokevirtual 108, 11, 4, 0, 4, 24), (127, 1, 0, .aload_n 0, 0, 0, 0, 99, 0), (128, 1, 0, .dup, 0, 0, 0, 99, 0), (129, 3, 3, .getfield 22, 1, 4, 0, 1, 47), (132, 1, 0, .iconst 1, 0, 0, 0, 99, 0), (133, 1, 1, .iadd, 0, 0, 0, 99, 0), (134, 3, 3, .putfield 22, 1, 4, 0, 1, 47), (137, 1, 0, .iconst 1, 0, 0, 0, 99, 0), (138, 1, 2, .ireturn, 0, 0, 3, 99, 0)]
def pgX1_takeCushion : List (Nat × Nat × z_En) := [(0, 1, 0, .aload_n 0, 0, 0, 0, 99, 0), (1, 3, 3, .getfield 25, 1, 5, 0, 1, 48), (4, 2, 0, .bipush 8, 0, 0, 0, 99, 0), (6, 3, 2, .if_icmp .lt 5, 0, 0, 0, 99, 0), (9, 1, 0, .iconst 0, 0, 0, 0, 99, 0), (10, 1, 2, .ireturn, 0, 0, 3, 99, 0), (11, 1, 0, .aload_n 0, 0, 0, 0, 99, 0), (12, 1, 0, .dup, 0, 0, 0, 99, 0), (13, 3, 3, .getfield 19, 1, 2, 0, 1, 45), (16, 1, 0, .iconst 1, 0, 0, 0, 99, 0), (17, 1, 1, .iadd, 0, 0, 0, 99, 0), (18, 3, 3, .putfield 19, 1, 2, 0, 1, 45), (21, 1, 0, .aload_n 0, 0, 0, 0, 99, 0), (22, 1, 0, .iconst 0, 0, 0, 0, 99, 0), (23, 1, 0, .aload_n 0, 0, 0, 0, 99, 0), (24, 3, 3, .getfield 28, 1, 6, 1, 1, 49), (27, 3, 3, .getfield 74, 0, 1, 0, 1, 194), (30, 1, 0, .iconst 1, 0, 0, 0, 99, 0), (31, 1, 1, .isub, 0, 0, 0, 99, 0), (32, 3, 4, .invokevirtual 77, 23, 3, 0, 3, 231), (35, 3, 2, .ifCond .ne 5, 0, 0, 0, 99, 0), (38, 1, 0, .iconst 0, 0, 0, 0, 99, 0), (39, 1, 2, .ireturn, 0, 0, 3, 99, 0), (40, 1, 0, .aload_n 0, 0, 0, 0, 99, 0), (41, 3, 3, .getfield 64, 1, 3, 0, 1, 46), (44, 1, 0, .istore_n 1, 0, 0, 0, 99, 0), (45, 1, 0, .aload_n 0, 0, 0, 0, 99, 0), (46, 2, 0, .bipush 64, 0, 0, 0, 99, 0), (48, 3, 4, .invokevirtual 41, 21, 2, 0, 3, 211), (51, 3, 2, .ifCond .eq 13, 0, 0, 0, 99, 0), (54, 1, 0, .aload_n 0, 0, 0, 0, 99, 0), (55, 1, 0, .iconst 0, 0, 0, 0, 99, 0), (56, 2, 0, .bipush 60, 0, 0, 0, 99, 0), (58, 3, 4, .invokevirtual 67, 24, 3, 0, 3, 219), (61, 3, 2, .ifCond .ne 5, 0, 0, 0, 99, 0), (64, 1, 0, .iconst 0, 0, 0, 0, 99, 0), (65, 1, 2, .ireturn, 0, 0, 3, 99, 0), (66, 1, 0, .aload_n 0, 0, 0, 0, 99, 0), (67, 3, 3, .getfield 64, 1, 3, 0, 1, 46), (70, 1, 0, .istore_n 2, 0, 0, 0, 99, 0), (71, 1, 0, .aload_n 0, 0, 0, 0, 99, 0), (72, 2, 0, .bipush 45, 0, 0, 0, 99, 0), (74, 3, 4, .invokevirtual 41, 21, 2, 0, 3, 211), (77, 3, 2, .ifCond .eq 13, 0, 0, 0, 99, 0), (80, 1, 0, .aload_n 0, 0, 0, 0, 99, 0), (81, 1, 0, .iload_n 2, 0, 0, 0, 99, 0), (82, 2, 0, .bipush 60, 0, 0, 0, 99, 0), (84, 3, 4, .invokevirtual 67, 24, 3, 0, 3, 219), (87, 3, 2, .ifCond .ne 5, 0, 0, 0, 99, 0), (90, 1, 0, .iconst 0, 0, 0, 0, 99, 0), (91, 1, 2, .ireturn, 0, 0, 3, 99, 0), (92, 1, 0, .aload_n 0, 0, 0, 0, 99, 0), (93, 3, 3, .getfield 28, 1, 6, 1, 1, 49), (96, 1, 0, .iload_n 1, 0, 0, 0, 99, 0), (97, 1, 0, .iload_n 2, 0, 0, 0, 99, 0), (98, 1, 0, .aload_n 0, 0, 0, 0, 99, 0), (99, 3, 3, .getfield 64, 1, 3, 0, 1, 46), (102, 3, 4, .invokevirtual 111, 12, 4, 0, 4, 33), (105, 1, 0, .aload_n 0, 0, 0, 0, 99, 0), (106, 1, 0, .dup, 0, 0, 0, 99, 0), (107, 3, 3, .getfield 25, 1, 5, 0, 1, 48), (110, 1, 0, .iconst 1, 0, 0, 0, 99, 0), (111, 1, 1, .iadd, 0, 0, 0, 99, 0), (112, 3, 3, .putfield 25, 1, 5, 0, 1, 48), (115, 1, 0, .iconst 1, 0, 0, 0, 99, 0), (116, 1, 2, .ireturn, 0, 0, 3, 99, 0)]
def pgX2_init : List (Nat × Nat × z_En) := [(0, 1, 0, .aload_n 0, 0, 0, 0, 99, 0), (1, 3, 4, .invokespecial 3, 0, 0, 13, 1, 70), (4, 1, 0, .aload_n 0, 0, 0, 0, 99, 0), (5, 2, 0, .bipush 24, 0, 0, 0, 99, 0), (7, 2, 3, .newarray .int, 10, 0, 0, 99, 0), (9, 3, 3, .putfield 9, 2, 0, 1, 1, 71), (12, 1, 0, .iconst 0, 0, 0, 0, 99, 0), (13, 1, 0, .istore_n 1, 0, 0, 0, 99, 0), (14, 1, 0, .iload_n 1, 0, 0, 0, 99, 0), (15, 2, 0, .bipush 24, 0, 0, 0, 99, 0), (17, 3, 2, .if_icmp .ge 17, 0, 0, 0, 99, 0), (20, 1, 0, .aload_n 0, 0, 0, 0, 99, 0), (21, 3, 3, .getfield 9, 2, 0, 1, 1, 71), (24, 1, 0, .iload_n 1, 0, 0, 0, 99, 0), (25, 2, 0, .bipush (-9), 0, 0, 0, 99, 0), (27, 1, 3, .iastore, 0, 0, 0, 99, 0), (28, 3, 0, .iinc 1 1, 0, 0, 0, 99, 0), (31, 3, 2, .goto (-17), 0, 0, 0, 99, 0), (34, 1, 2, .return_, 0, 0, 0, 99, 0)]
def pgX2_clear : List (Nat × Nat × z_En) := [(0, 1, 0, .iconst 0, 0, 0, 0, 99, 0), (1, 1, 0, .istore_n 1, 0, 0, 0, 99, 0), (2, 1, 0, .iload_n 1, 0, 0, 0, 99, 0), (3, 2, 0, .bipush 24, 0, 0, 0, 99, 0), (5, 3, 2, .if_icmp .ge 17, 0, 0, 0, 99, 0), (8, 1, 0, .aload_n 0, 0, 0, 0, 99, 0), (9, 3, 3, .getfield 9, 2, 0, 1, 1, 71), (12, 1, 0, .iload_n 1, 0, 0, 0, 99, 0), (13, 2, 0, .bipush (-9), 0, 0, 0, 99, 0), (15, 1, 3, .iastore, 0, 0, 0, 99, 0), (16, 3, 0, .iinc 1 1, 0, 0, 0, 99, 0), (19, 3, 2, .goto (-17), 0, 0, 0, 99, 0), (22, 1, 2, .return_, 0, 0, 0, 99, 0)]
def pgX2_become : List (Nat × Nat × z_En) := [(0, 1, 0, .iconst 0, 0, 0, 0, 99, 0), (1, 1, 0, .istore_n 3, 0, 0, 0, 99, 0), (2, 1, 0, .iload_n 3, 0, 0, 0, 99, 0), (3, 1, 0, .iload_n 2, 0, 0, 0, 99, 0), (4, 3, 2, .if_icmp .ge 30, 0, 0, 0, 99, 0), (7, 1, 0, .iload_n 3, 0, 0, 0, 99, 0), (8, 2, 0, .bipush 24, 0, 0, 0, 99, 0), (10, 3, 2, .if_icmp .ge 24, 0, 0, 0, 99, 0), (13, 1, 0, .iload_n 3, 0, 0, 0, 99, 0), (14, 1, 0, .aload_n 1, 0, 0, 0, 99, 0), (15, 1, 3, .arraylength, 10, 0, 0, 99, 0), (16, 3, 2, .if_icmp .ge 18, 0, 0, 0, 99, 0), (19, 1, 0, .aload_n 0, 0, 0, 0, 99, 0), (20, 3, 3, .getfield 9, 2, 0, 1, 1, 71), (23, 1, 0, .iload_n 3, 0, 0, 0, 99, 0), (24, 1, 0, .aload_n 1, 0, 0, 0, 99, 0), (25, 1, 0, .iload_n 3, 0, 0, 0, 99, 0), (26, 1, 3, .iaload, 0, 0, 0, 99, 0), (27, 1, 3, .iastore, 0, 0, 0, 99, 0), (28, 3, 0, .iinc 3 1, 0, 0, 0, 99, 0), (31, 3, 2, .goto (-29), 0, 0, 0, 99, 0), (34, 1, 2, .return_, 0, 0, 0, 99, 0)]
def pgX2_isBegunAhead : List (Nat × Nat × z_En) := [(0, 1, 0, .aload_n 0, 0, 0, 0, 99, 0), (1, 3, 3, .getfield 9, 2, 0, 1, 1, 71), (4, 1, 0, .iload_n 1, 0, 0, 0, 99, 0), (5, 1, 3, .iaload, 0, 0, 0, 99, 0), (6, 2, 0, .bipush (-9), 0, 0, 0, 99, 0), (8, 3, 2, .if_icmp .eq 17, 0, 0, 0, 99, 0), (11, 1, 0, .aload_n 0, 0, 0, 0, 99, 0), (12, 3, 3, .getfield 9, 2, 0, 1, 1, 71), (15, 1, 0, .iload_n 1, 0, 0, 0, 99, 0), (16, 1, 3, .iaload, 0, 0, 0, 99, 0), (17, 1, 0, .iload_n 2, 0, 0, 0, 99, 0), (18, 3, 2, .if_icmp .ge 7, 0, 0, 0, 99, 0), (21, 1, 0, .iconst 1, 0, 0, 0, 99, 0), (22, 3, 2, .goto 4, 0, 0, 0, 99, 0), (25, 1, 0, .iconst 0, 0, 0, 0, 99, 0), (26, 1, 2, .ireturn, 0, 0, 3, 99, 0)]
def pgX2_begunAhead : List (Nat × Nat × z_En) := [(0, 1, 0, .iconst 0, 0, 0, 0, 99, 0), (1, 1, 0, .istore_n 3, 0, 0, 0, 99, 0), (2, 1, 0, .iconst 0, 0, 0, 0, 99, 0), (3, 2, 0, .istore 4, 0, 0, 0, 99, 0), (5, 2, 0, .iload 4, 0, 0, 0, 99, 0), (7, 1, 0, .aload_n 1, 0, 0, 0, 99, 0), (8, 3, 3, .getfield 15, 0, 3, 0, 1, 202), (11, 3, 2, .if_icmp .ge 27, 0, 0, 0, 99, 0), (14, 1, 0, .iload_n 3, 0, 0, 0, 99, 0), (15, 1, 0, .aload_n 0, 0, 0, 0, 99, 0), (16, 2, 0, .iload 4, 0, 0, 0, 99, 0), (18, 1, 0, .iload_n 2, 0, 0, 0, 99, 0), (19, 3, 4, .invokevirtual 21, 34, 3, 0, 3, 129), (22, 3, 2, .ifCond .eq 7, 0, 0, 0, 99, 0), (25, 1, 0, .iconst 1, 0, 0, 0, 99, 0), (26, 3, 2, .goto 4, 0, 0, 0, 99, 0), (29, 1, 0, .iconst 0, 0, 0, 0, 99, 0), (30, 1, 1, .iadd, 0, 0, 0, 99, 0), (31, 1, 0, .istore_n 3, 0, 0, 0, 99, 0), (32, 3, 0, .iinc 4 1, 0, 0, 0, 99, 0), (35, 3, 2, .goto (-30), 0, 0, 0, 99, 0), (38, 1, 0, .iload_n 3, 0, 0, 0, 99, 0), (39, 1, 2, .ireturn, 0, 0, 0, 99, 0)]
def pgX2_isReadIn : List (Nat × Nat × z_En) := [(0, 1, 0, .aload_n 0, 0, 0, 0, 99, 0), (1, 3, 3, .getfield 9, 2, 0, 1, 1, 71), (4, 1, 0, .iload_n 2, 0, 0, 0, 99, 0), (5, 1, 3, .iaload, 0, 0, 0, 99, 0), (6, 2, 0, .bipush (-9), 0, 0, 0, 99, 0), (8, 3, 2, .if_icmp .eq 34, 0, 0, 0, 99, 0), (11, 1, 0, .aload_n 0, 0, 0, 0, 99, 0), (12, 3, 3, .getfield 9, 2, 0, 1, 1, 71), (15, 1, 0, .iload_n 2, 0, 0, 0, 99, 0), (16, 1, 3, .iaload, 0, 0, 0, 99, 0), (17, 1, 0, .iload_n 3, 0, 0, 0, 99, 0), (18, 3, 2, .if_icmp .gt 24, 0, 0, 0, 99, 0), (21, 1, 0, .iload_n 3, 0, 0, 0, 99, 0), (22, 1, 0, .aload_n 0, 0, 0, 0, 99, 0), (23, 3, 3, .getfield 9, 2, 0, 1, 1, 71), (26, 1, 0, .iload_n 2, 0, 0, 0, 99, 0), (27, 1, 3, .iaload, 0, 0, 0, 99, 0), (28, 1, 0, .aload_n 1, 0, 0, 0, 99, 0), (29, 3, 3, .getfield 25, 0, 14, 1, 1, 239), (32, 1, 0, .iload_n 2, 0, 0, 0, 99, 0), (33, 1, 3, .iaload, 0, 0, 0, 99, 0), (34, 1, 1, .iadd, 0, 0, 0, 99, 0), (35, 3, 2, .if_icmp .ge 7, 0, 0, 0, 99, 0), (38, 1, 0, .iconst 1, 0, 0, 0, 99, 0), (39, 3, 2, .goto 4, 0, 0, 0, 99, 0), (42, 1, 0, .iconst 0, 0, 0, 0, 99, 0), (43, 1, 2, .ireturn, 0, 0, 3, 99, 0)]
def pgX2_lossOf : List (Nat × Nat × z_En) := [(0, 1, 0, .iconst 0, 0, 0, 0, 99, 0), (1, 1, 0, .istore_n 3, 0, 0, 0, 99, 0), (2, 1, 0, .iconst 0, 0, 0, 0, 99, 0), (3, 2, 0, .istore 4, 0, 0, 0, 99, 0), (5, 2, 0, .iload 4, 0, 0, 0, 99, 0), (7, 1, 0, .aload_n 1, 0, 0, 0, 99, 0), (8, 3, 3, .getfield 15, 0, 3, 0, 1, 202), (11, 3, 2, .if_icmp .ge 34, 0, 0, 0, 99, 0), (14, 1, 0, .iload_n 3, 0, 0, 0, 99, 0), (15, 1, 0, .aload_n 1, 0, 0, 0, 99, 0), (16, 3, 3, .getfield 28, 0, 12, 1, 1, 230), (19, 2, 0, .iload 4, 0, 0, 0, 99, 0), (21, 1, 3, .iaload, 0, 0, 0, 99, 0), (22, 1, 0, .iload_n 2, 0, 0, 0, 99, 0), (23, 3, 2, .if_icmp .ne 13, 0, 0, 0, 99, 0), (26, 1, 0, .aload_n 0, 0, 0, 0, 99, 0), (27, 1, 0, .aload_n 1, 0, 0, 0, 99, 0), (28, 2, 0, .iload 4, 0, 0, 0, 99, 0), (30, 3, 4, .invokevirtual 31, 39, 3, 0, 2, 163), (33, 3, 2, .goto 4, 0, 0, 0, 99, 0), (36, 1, 0, .iconst 0, 0, 0, 0, 99, 0), (37, 1, 1, .iadd, 0, 0, 0, 99, 0), (38, 1, 0, .istore_n 3, 0, 0, 0, 99, 0), (39, 3, 0, .iinc 4 1, 0, 0, 0, 99, 0), (42, 3, 2, .goto (-37), 0, 0, 0, 99, 0), (45, 1, 0, .iload_n 3, 0, 0, 0, 99, 0), (46, 1, 2, .ireturn, 0, 0, 0, 99, 0)]
def pgX2_lossOfAll : List (Nat × Nat × z_En) := [(0, 1, 0, .iconst 0, 0, 0, 0, 99, 0), (1, 1, 0, .istore_n 2, 0, 0, 0, 99, 0), (2, 1, 0, .iconst 0, 0, 0, 0, 99, 0), (3, 1, 0, .istore_n 3, 0, 0, 0, 99, 0), (4, 1, 0, .iload_n 3, 0, 0, 0, 99, 0), (5, 1, 0, .aload_n 1, 0, 0, 0, 99, 0), (6, 3, 3, .getfield 15, 0, 3, 0, 1, 202), (9, 3, 2, .if_icmp .ge 18, 0, 0, 0, 99, 0), (12, 1, 0, .iload_n 2, 0, 0, 0, 99, 0), (13, 1, 0, .aload_n 0, 0, 0, 0, 99, 0), (14, 1, 0, .aload_n 1, 0, 0, 0, 99, 0), (15, 1, 0, .iload_n 3, 0, 0, 0, 99, 0), (16, 3, 4, .invokevirtual 31, 39, 3, 0, 2, 163), (19, 1, 1, .iadd, 0, 0, 0, 99, 0), (20, 1, 0, .istore_n 2, 0, 0, 0, 99, 0), (21, 3, 0, .iinc 3 1, 0, 0, 0, 99, 0), (24, 3, 2, .goto (-20), 0, 0, 0, 99, 0), (27, 1, 0, .iload_n 2, 0, 0, 0, 99, 0), (28, 1, 2, .ireturn, 0, 0, 0, 99, 0)]
def pgX2_lossBy : List (Nat × Nat × z_En) := [(0, 1, 0, .aload_n 1, 0, 0, 0, 99, 0), (1, 3, 3, .getfield 35, 0, 15, 1, 2, 4), (4, 1, 0, .iload_n 2, 0, 0, 0, 99, 0), (5, 1, 3, .iaload, 0, 0, 0, 99, 0), (6, 1, 0, .aload_n 0, 0, 0, 0, 99, 0), (7, 3, 3, .getfield 9, 2, 0, 1, 1, 71), (10, 1, 0, .iload_n 2, 0, 0, 0, 99, 0), (11, 1, 3, .iaload, 0, 0, 0, 99, 0), (12, 2, 0, .bipush (-9), 0, 0, 0, 99, 0), (14, 3, 2, .if_icmp .ne 7, 0, 0, 0, 99, 0), (17, 1, 0, .iconst 0, 0, 0, 0, 99, 0), (18, 3, 2, .goto 14, 0, 0, 0, 99, 0), (21, 1, 0, .aload_n 1, 0, 0, 0, 99, 0), (22, 1, 0, .iload_n 2, 0, 0, 0, 99, 0), (23, 1, 0, .aload_n 0, 0, 0, 0, 99, 0), (24, 3, 3, .getfield 9, 2, 0, 1, 1, 71), (27, 1, 0, .iload_n 2, 0, 0, 0, 99, 0), (28, 1, 3, .iaload, 0, 0, 0, 99, 0), (29, 3, 4, .invokevirtual 38, 14, 3, 0, 2, 167), (32, 1, 1, .isub, 0, 0, 0, 99, 0), (33, 1, 2, .ireturn, 0, 0, 0, 99, 0)]
def pgX2_firstWrong : List (Nat × Nat × z_En) := [(0, 2, 0, .bipush 61, 0, 0, 0, 99, 0), (2, 1, 0, .istore_n 2, 0, 0, 0, 99, 0), (3, 1, 0, .iconst 0, 0, 0, 0, 99, 0), (4, 1, 0, .istore_n 3, 0, 0, 0, 99, 0), (5, 1, 0, .iload_n 3, 0, 0, 0, 99, 0), (6, 1, 0, .aload_n 1, 0, 0, 0, 99, 0), (7, 3, 3, .getfield 15, 0, 3, 0, 1, 202), (10, 3, 2, .if_icmp .ge 31, 0, 0, 0, 99, 0), (13, 1, 0, .aload_n 0, 0, 0, 0, 99, 0), (14, 3, 3, .getfield 9, 2, 0, 1, 1, 71), (17, 1, 0, .iload_n 3, 0, 0, 0, 99, 0), (18, 1, 3, .iaload, 0, 0, 0, 99, 0), (19, 2, 0, .bipush (-9), 0, 0, 0, 99, 0), (21, 3, 2, .if_icmp .eq 14, 0, 0, 0, 99, 0), (24, 1, 0, .iload_n 2, 0, 0, 0, 99, 0), (25, 1, 0, .aload_n 0, 0, 0, 0, 99, 0), (26, 1, 0, .aload_n 1, 0, 0, 0, 99, 0), (27, 1, 0, .iload_n 3, 0, 0, 0, 99, 0), (28, 3, 4, .invokevirtual 42, 41, 3, 0, 2, 120), (31, 3, 4, .invokestatic 45, 0, 0, 11, 2, 154), (34, 1, 0, .istore_n 2, 0, 0, 0, 99, 0), (35, 3, 0, .iinc 3 1, 0, 0, 0, 99, 0), (38, 3, 2, .goto (-33), 0, 0, 0, 99, 0), (41, 1, 0, .iload_n 2, 0, 0, 0, 99, 0), (42, 2, 0, .bipush 60, 0, 0, 0, 99, 0), (44, 3, 2, .if_icmp .le 8, 0, 0, 0, 99, 0), (47, 2, 0, .bipush (-9), 0, 0, 0, 99, 0), (49, 3, 2, .goto 4, 0, 0, 0, 99, 0), (52, 1, 0, .iload_n 2, 0, 0, 0, 99, 0), (53, 1, 2, .ireturn, 0, 0, 0, 99, 0)]
def pgX2_firstWrongOf : List (Nat × Nat × z_En) := [(0, 1, 0, .aload_n 0, 0, 0, 0, 99, 0), (1, 3, 3, .getfield 9, 2, 0, 1, 1, 71), (4, 1, 0, .iload_n 2, 0, 0, 0, 99, 0), (5, 1, 3, .iaload, 0, 0, 0, 99, 0), (6, 1, 0, .istore_n 3, 0, 0, 0, 99, 0), (7, 1, 0, .iload_n 3, 0, 0, 0, 99, 0), (8, 1, 0, .aload_n 1, 0, 0, 0, 99, 0), (9, 3, 3, .getfield 50, 0, 8, 1, 1, 219), (12, 1, 0, .aload_n 1, 0, 0, 0, 99, 0), (13, 3, 3, .getfield 28, 0, 12, 1, 1, 230), (16, 1, 0, .iload_n 2, 0, 0, 0, 99, 0), (17, 1, 3, .iaload, 0, 0, 0, 99, 0), (18, 1, 3, .iaload, 0, 0, 0, 99, 0), (19, 3, 2, .if_icmp .lt 18, 0, 0, 0, 99, 0), (22, 1, 0, .iload_n 3, 0, 0, 0, 99, 0), (23, 1, 0, .aload_n 1, 0, 0, 0, 99, 0), (24, 3, 3, .getfield 53, 0, 5, 1, 1, 213), (27, 1, 0, .aload_n 1, 0, 0, 0, 99, 0), (28, 3, 3, .getfield 56, 0, 13, 1, 1, 236), (31, 1, 0, .iload_n 2, 0, 0, 0, 99, 0), (32, 1, 3, .iaload, 0, 0, 0, 99, 0), (33, 1, 3, .iaload, 0, 0, 0, 99, 0), (34, 3, 2, .if_icmp .ge 5, 0, 0, 0, 99, 0), (37, 1, 0, .iload_n 3, 0, 0, 0, 99, 0), (38, 1, 2, .ireturn, 0, 0, 0, 99, 0), (39, 1, 0, .aload_n 0, 0, 0, 0, 99, 0), (40, 1, 0, .aload_n 1, 0, 0, 0, 99, 0), (41, 1, 0, .iload_n 2, 0, 0, 0, 99, 0), (42, 3, 4, .invokevirtual 59, 42, 3, 0, 2, 124), (45, 3, 2, .ifCond .ne 25, 0, 0, 0, 99, 0), (48, 1, 0, .aload_n 0, 0, 0, 0, 99, 0), (49, 1, 0, .aload_n 1, 0, 0, 0, 99, 0), (50, 1, 0, .iload_n 2, 0, 0, 0, 99, 0), (51, 3, 4, .invokevirtual 63, 43, 3, 0, 2, 132), (54, 3, 2, .ifCond .eq 16, 0, 0, 0, 99, 0), (57, 1, 0, .aload_n 1, 0, 0, 0, 99, 0), (58, 1, 0, .iload_n 2, 0, 0, 0, 99, 0), (59, 1, 0, .iload_n 3, 0, 0, 0, 99, 0), (60, 1, 0, .aload_n 0, 0, 0, 0, 99, 0), (61, 3, 3, .getfield 9, 2, 0, 1, 1, 71), (64, 3, 4, .invokevirtual 66, 16, 4, 0, 2, 136), (67, 3, 2, .ifCond .eq 5, 0, 0, 0, 99, 0), (70, 1, 0, .iload_n 3, 0, 0, 0, 99, 0), (71, 1, 2, .ireturn, 0, 0, 0, 99, 0), (72, 2, 0, .bipush 61, 0, 0, 0, 99, 0), (74, 2, 0, .istore 4, 0, 0, 0, 99, 0), (76, 1, 0, .iload_n 3, 0, 0, 0, 99, 0), (77, 1, 0, .aload_n 1, 0, 0, 0, 99, 0), (78, 1, 0, .iload_n 2, 0, 0, 0, 99, 0), (79, 3, 4, .invokevirtual 70, 17, 2, 0, 2, 140), (82, 3, 2, .if_icmp .le 21, 0, 0, 0, 99, 0), (85, 1, 0, .iload_n 3, 0, 0, 0, 99, 0), (86, 1, 0, .aload_n 1, 0, 0, 0, 99, 0), (87, 1, 0, .iload_n 2, 0, 0, 0, 99, 0), (88, 3, 4, .invokevirtual 70, 17, 2, 0, 2, 140), (91, 1, 0, .aload_n 1, 0, 0, 0, 99, 0), (92, 3, 3, .getfield 25, 0, 14, 1, 1, 239), (95, 1, 0, .iload_n 2, 0, 0, 0, 99, 0), (96, 1, 3, .iaload, 0, 0, 0, 99, 0), (97, 1, 1, .iadd, 0, 0, 0, 99, 0), (98, 3, 4, .invokestatic 74, 0, 0, 10, 2, 147), (101, 2, 0, .istore 4, 0, 0, 0, 99, 0), (103, 1, 0, .aload_n 1, 0, 0, 0, 99, 0), (104, 1, 0, .iload_n 2, 0, 0, 0, 99, 0), (105, 1, 0, .iload_n 3, 0, 0, 0, 99, 0), (106, 3, 4, .invokevirtual 77, 15, 3, 0, 2, 150), (109, 2, 0, .istore 5, 0, 0, 0, 99, 0), (111, 2, 0, .iload 5, 0, 0, 0, 99, 0), (113, 2, 0, .bipush (-9), 0, 0, 0, 99, 0), (115, 3, 2, .if_icmp .ne 8, 0, 0, 0, 99, 0), (118, 2, 0, .iload 4, 0, 0, 0, 99, 0), (120, 3, 2, .goto 10, 0, 0, 0, 99, 0), (123, 2, 0, .iload 4, 0, 0, 0, 99, 0), (125, 2, 0, .iload 5, 0, 0, 0, 99, 0), (127, 3, 4, .invokestatic 45, 0, 0, 11, 2, 154), (130, 1, 2, .ireturn, 0, 0, 0, 99, 0)]
def pgX2_isCrowded : List (Nat × Nat × z_En) := [(0, 1, 0, .iconst 0, 0, 0, 0, 99, 0), (1, 1, 0, .istore_n 3, 0, 0, 0, 99, 0), (2, 1, 0, .iconst 0, 0, 0, 0, 99, 0), (3, 2, 0, .istore 4, 0, 0, 0, 99, 0), (5, 1, 0, .iconst 0, 0, 0, 0, 99, 0), (6, 2, 0, .istore 5, 0, 0, 0, 99, 0), (8, 2, 0, .iload 5, 0, 0, 0, 99, 0), (10, 1, 0, .aload_n 1, 0, 0, 0, 99, 0), (11, 3, 3, .getfield 15, 0, 3, 0, 1, 202), (14, 3, 2, .if_icmp .ge 75, 0, 0, 0, 99, 0), (17, 1, 0, .aload_n 0, 0, 0, 0, 99, 0), (18, 1, 0, .aload_n 1, 0, 0, 0, 99, 0), (19, 2, 0, .iload 5, 0, 0, 0, 99, 0), (21, 1, 0, .aload_n 0, 0, 0, 0, 99, 0), (22, 3, 3, .getfield 9, 2, 0, 1, 1, 71), (25, 1, 0, .iload_n 2, 0, 0, 0, 99, 0), (26, 1, 3, .iaload, 0, 0, 0, 99, 0), (27, 3, 4, .invokevirtual 80, 36, 4, 0, 2, 128), (30, 3, 2, .ifCond .eq 53, 0, 0, 0, 99, 0), (33, 1, 0, .iload_n 3, 0, 0, 0, 99, 0), (34, 1, 0, .aload_n 1, 0, 0, 0, 99, 0), (35, 3, 3, .getfield 56, 0, 13, 1, 1, 236), (38, 2, 0, .iload 5, 0, 0, 0, 99, 0), (40, 1, 3, .iaload, 0, 0, 0, 99, 0), (41, 1, 0, .aload_n 1, 0, 0, 0, 99, 0), (42, 3, 3, .getfield 56, 0, 13, 1, 1, 236), (45, 1, 0, .iload_n 2, 0, 0, 0, 99, 0), (46, 1, 3, .iaload, 0, 0, 0, 99, 0), (47, 3, 2, .if_icmp .ne 7, 0, 0, 0, 99, 0), (50, 1, 0, .iconst 1, 0, 0, 0, 99, 0), (51, 3, 2, .goto 4, 0, 0, 0, 99, 0), (54, 1, 0, .iconst 0, 0, 0, 0, 99, 0), (55, 1, 1, .iadd, 0, 0, 0, 99, 0), (56, 1, 0, .istore_n 3, 0, 0, 0, 99, 0), (57, 2, 0, .iload 4, 0, 0, 0, 99, 0), (59, 1, 0, .aload_n 1, 0, 0, 0, 99, 0), (60, 3, 3, .getfield 28, 0, 12, 1, 1, 230), (63, 2, 0, .iload 5, 0, 0, 0, 99, 0), (65, 1, 3, .iaload, 0, 0, 0, 99, 0), (66, 1, 0, .aload_n 1, 0, 0, 0, 99, 0), (67, 3, 3, .getfield 28, 0, 12, 1, 1, 230), (70, 1, 0, .iload_n 2, 0, 0, 0, 99, 0), (71, 1, 3, .iaload, 0, 0, 0, 99, 0), (72, 3, 2, .if_icmp .ne 7, 0, 0, 0, 99, 0), (75, 1, 0, .iconst 1, 0, 0, 0, 99, 0), (76, 3, 2, .goto 4, 0, 0, 0, 99, 0), (79, 1, 0, .iconst 0, 0, 0, 0, 99, 0), (80, 1, 1, .iadd, 0, 0, 0, 99, 0), (81, 2, 0, .istore 4, 0, 0, 0, 99, 0), (83, 3, 0, .iinc 5 1, 0, 0, 0, 99, 0), (86, 3, 2, .goto (-78), 0, 0, 0, 99, 0), (89, 2, 0, .iload 4, 0, 0, 0, 99, 0), (91, 1, 0, .iconst 1, 0, 0, 0, 99, 0), (92, 3, 2, .if_icmp .gt 18, 0, 0, 0, 99, 0), (95, 1, 0, .iload_n 3, 0, 0, 0, 99, 0), (96, 1, 0, .aload_n 1, 0, 0, 0, 99, 0), (97, 3, 3, .getfield 84, 0, 4, 1, 1, 209), (100, 1, 0, .aload_n 1, 0, 0, 0, 99, 0), (101, 3, 3, .getfield 56, 0, 13, 1, 1, 236), (104, 1, 0, .iload_n 2, 0, 0, 0, 99, 0), (105, 1, 3, .iaload, 0, 0, 0, 99, 0), (106, 1, 3, .iaload, 0, 0, 0, 99, 0), (107, 3, 2, .if_icmp .le 7, 0, 0, 0, 99, 0), (110, 1, 0, .iconst 1, 0, 0, 0, 99, 0), (111, 3, 2, .goto 4, 0, 0, 0, 99, 0), (114, 1, 0, .iconst 0, 0, 0, 0, 99, 0), (115, 1, 2, .ireturn, 0, 0, 3, 99, 0)]
def pgX2_isInOrder : List (Nat × Nat × z_En) := [(0, 1, 0, .iconst 0, 0, 0, 0, 99, 0), (1, 1, 0, .istore_n 3, 0, 0, 0, 99, 0), (2, 1, 0, .iload_n 3, 0, 0, 0, 99, 0), (3, 1, 0, .iload_n 2, 0, 0, 0, 99, 0), (4, 3, 2, .if_icmp .ge 69, 0, 0, 0, 99, 0), (7, 1, 0, .aload_n 1, 0, 0, 0, 99, 0), (8, 3, 3, .getfield 87, 0, 18, 1, 2, 11), (11, 1, 0, .iload_n 2, 0, 0, 0, 99, 0), (12, 1, 3, .iaload, 0, 0, 0, 99, 0), (13, 1, 0, .iload_n 3, 0, 0, 0, 99, 0), (14, 1, 1, .ishr, 0, 0, 0, 99, 0), (15, 1, 0, .iconst 1, 0, 0, 0, 99, 0), (16, 1, 1, .iand, 0, 0, 0, 99, 0), (17, 3, 2, .ifCond .eq 7, 0, 0, 0, 99, 0), (20, 1, 0, .iconst 1, 0, 0, 0, 99, 0), (21, 3, 2, .goto 4, 0, 0, 0, 99, 0), (24, 1, 0, .iconst 0, 0, 0, 0, 99, 0), (25, 2, 0, .istore 4, 0, 0, 0, 99, 0), (27, 2, 0, .iload 4, 0, 0, 0, 99, 0), (29, 3, 2, .ifCond .eq 38, 0, 0, 0, 99, 0), (32, 1, 0, .aload_n 0, 0, 0, 0, 99, 0), (33, 3, 3, .getfield 9, 2, 0, 1, 1, 71), (36, 1, 0, .iload_n 3, 0, 0, 0, 99, 0), (37, 1, 3, .iaload, 0, 0, 0, 99, 0), (38, 2, 0, .bipush (-9), 0, 0, 0, 99, 0), (40, 3, 2, .if_icmp .eq 25, 0, 0, 0, 99, 0), (43, 1, 0, .aload_n 0, 0, 0, 0, 99, 0), (44, 3, 3, .getfield 9, 2, 0, 1, 1, 71), (47, 1, 0, .iload_n 3, 0, 0, 0, 99, 0), (48, 1, 3, .iaload, 0, 0, 0, 99, 0), (49, 1, 0, .aload_n 1, 0, 0, 0, 99, 0), (50, 3, 3, .getfield 25, 0, 14, 1, 1, 239), (53, 1, 0, .iload_n 3, 0, 0, 0, 99, 0), (54, 1, 3, .iaload, 0, 0, 0, 99, 0), (55, 1, 1, .iadd, 0, 0, 0, 99, 0), (56, 1, 0, .aload_n 0, 0, 0, 0, 99, 0), (57, 3, 3, .getfield 9, 2, 0, 1, 1, 71), (60, 1, 0, .iload_n 2, 0, 0, 0, 99, 0), (61, 1, 3, .iaload, 0, 0, 0, 99, 0), (62, 3, 2, .if_icmp .le 5, 0, 0, 0, 99, 0), (65, 1, 0, .iconst 0, 0, 0, 0, 99, 0), (66, 1, 2, .ireturn, 0, 0, 3, 99, 0), (67, 3, 0, .iinc 3 1, 0, 0, 0, 99, 0), (70, 3, 2, .goto (-68), 0, 0, 0, 99, 0), (73, 1, 0, .iconst 1, 0, 0, 0, 99, 0), (74, 1, 2, .ireturn, 0, 0, 3, 99, 0)]
def pgX3_init : List (Nat × Nat × z_En) := [(0, 1, 0, .aload_n 0, 0, 0, 0, 99, 0), (1, 3, 4, .invokespecial 3, 0, 0, 13, 1, 100), (4, 1, 0, .aload_n 0, 0, 0, 0, 99, 0), (5, 2, 0, .bipush 8, 0, 0, 0, 99, 0), (7, 2, 3, .newarray .int, 10, 0, 0, 99, 0), (9, 3, 3, .putfield 9, 3, 4, 1, 1, 105), (12, 1, 0, .aload_n 0, 0, 0, 0, 99, 0), (13, 2, 0, .bipush 12, 0, 0, 0, 99, 0), (15, 2, 3, .newarray .int, 10, 0, 0, 99, 0), (17, 3, 3, .putfield 15, 3, 5, 1, 1, 106), (20, 1, 0, .aload_n 0, 0, 0, 0, 99, 0), (21, 2, 0, .bipush 12, 0, 0, 0, 99, 0), (23, 2, 3, .newarray .int, 10, 0, 0, 99, 0), (25, 3, 3, .putfield 18, 3, 6, 1, 1, 107), (28, 1, 2, .return_, 0, 0, 0, 99, 0)]
def pgX3_go : List (Nat × Nat × z_En) := [(0, 1, 0, .aload_n 0, 0, 0, 0, 99, 0), (1, 1, 0, .aload_n 1, 0, 0, 0, 99, 0), (2, 3, 3, .putfield 21, 3, 0, 1, 1, 101), (5, 1, 0, .aload_n 0, 0, 0, 0, 99, 0), (6, 1, 0, .aload_n 2, 0, 0, 0, 99, 0), (7, 3, 3, .putfield 25, 3, 1, 1, 1, 102), (10, 1, 0, .aload_n 0, 0, 0, 0, 99, 0), (11, 1, 0, .aload_n 3, 0, 0, 0, 99, 0), (12, 3, 3, .getfield 29, 2, 0, 1, 1, 72), (15, 3, 3, .putfield 34, 3, 2, 1, 1, 103), (18, 1, 0, .aload_n 3, 0, 0, 0, 99, 0), (19, 3, 4, .invokevirtual 35, 32, 1, 0, 2, 226), (22, 1, 0, .aload_n 0, 0, 0, 0, 99, 0), (23, 1, 0, .iconst 0, 0, 0, 0, 99, 0), (24, 3, 3, .putfield 38, 3, 3, 0, 1, 104), (27, 1, 0, .iconst 0, 0, 0, 0, 99, 0), (28, 2, 0, .istore 4, 0, 0, 0, 99, 0), (30, 2, 0, .iload 4, 0, 0, 0, 99, 0), (32, 1, 0, .aload_n 0, 0, 0, 0, 99, 0), (33, 3, 3, .getfield 21, 3, 0, 1, 1, 101), (36, 3, 3, .getfield 42, 0, 2, 0, 1, 197), (39, 3, 2, .if_icmp .ge 26, 0, 0, 0, 99, 0), (42, 1, 0, .aload_n 0, 0, 0, 0, 99, 0), (43, 3, 3, .getfield 9, 3, 4, 1, 1, 105), (46, 2, 0, .iload 4, 0, 0, 0, 99, 0), (48, 1, 0, .aload_n 0, 0, 0, 0, 99, 0), (49, 3, 3, .getfield 21, 3, 0, 1, 1, 101), (52, 3, 3, .getfield 47, 0, 8, 1, 1, 218), (55, 2, 0, .iload 4, 0, 0, 0, 99, 0), (57, 1, 3, .iaload, 0, 0, 0, 99, 0), (58, 1, 3, .iastore, 0, 0, 0, 99, 0), (59, 3, 0, .iinc 4 1, 0, 0, 0, 99, 0), (62, 3, 2, .goto (-32), 0, 0, 0, 99, 0), (65, 1, 0, .iconst 0, 0, 0, 0, 99, 0), (66, 2, 0, .istore 4, 0, 0, 0, 99, 0), (68, 2, 0, .iload 4, 0, 0, 0, 99, 0), (70, 2, 0, .bipush 12, 0, 0, 0, 99, 0), (72, 3, 2, .if_icmp .ge 26, 0, 0, 0, 99, 0), (75, 1, 0, .aload_n 0, 0, 0, 0, 99, 0), (76, 3, 3, .getfield 15, 3, 5, 1, 1, 106), (79, 2, 0, .iload 4, 0, 0, 0, 99, 0), (81, 1, 0, .iconst 0, 0, 0, 0, 99, 0), (82, 1, 3, .iastore, 0, 0, 0, 99, 0), (83, 1, 0, .aload_n 0, 0, 0, 0, 99, 0), (84, 3, 3, .getfield 18, 3, 6, 1, 1, 107), (87, 2, 0, .iload 4, 0, 0, 0, 99, 0), (89, 2, 0, .bipush (-9), 0, 0, 0, 99, 0), (91, 1, 3, .iastore, 0, 0, 0, 99, 0), (92, 3, 0, .iinc 4 1, 0, 0, 0, 99, 0), (95, 3, 2, .goto (-27), 0, 0, 0, 99, 0), (98, 1, 0, .iconst 1, 0, 0, 0, 99, 0), (99, 1, 0, .aload_n 0, 0, 0, 0, 99, 0), (100, 3, 3, .getfield 21, 3, 0, 1, 1, 101), (103, 3, 3, .getfield 50, 0, 3, 0, 1, 201), (106, 1, 1, .ishl, 0, 0, 0, 99, 0), (107, 1, 0, .iconst 1, 0, 0, 0, 99, 0), (108, 1, 1, .isub, 0, 0, 0, 99, 0), (109, 2, 0, .istore 4, 0, 0, 0, 99, 0), (111, 1, 0, .iconst 0, 0, 0, 0, 99, 0), (112, 2, 0, .istore 5, 0, 0, 0, 99, 0), (114, 2, 0, .iload 5, 0, 0, 0, 99, 0), (116, 1, 0, .aload_n 0, 0, 0, 0, 99, 0), (117, 3, 3, .getfield 21, 3, 0, 1, 1, 101), (120, 3, 3, .getfield 53, 0, 0, 0, 1, 191), (123, 3, 2, .if_icmp .ge 65, 0, 0, 0, 99, 0), (126, 1, 0, .aload_n 0, 0, 0, 0, 99, 0), (127, 3, 3, .getfield 38, 3, 3, 0, 1, 104), (130, 2, 0, .iload 4, 0, 0, 0, 99, 0), (132, 3, 2, .if_icmp .eq 56, 0, 0, 0, 99, 0), (135, 1, 0, .aload_n 0, 0, 0, 0, 99, 0), (136, 2, 0, .iload 5, 0, 0, 0, 99, 0), (138, 3, 4, .invokevirtual 56, 46, 2, 0, 2, 230), (141, 2, 0, .istore 6, 0, 0, 0, 99, 0), (143, 1, 0, .iconst 0, 0, 0, 0, 99, 0), (144, 2, 0, .istore 7, 0, 0, 0, 99, 0), (146, 2, 0, .iload 7, 0, 0, 0, 99, 0), (148, 2, 0, .bipush 24, 0, 0, 0, 99, 0), (150, 3, 2, .if_icmp .ge 32, 0, 0, 0, 99, 0), (153, 2, 0, .iload 6, 0, 0, 0, 99, 0), (155, 2, 0, .bipush (-9), 0, 0, 0, 99, 0), (157, 3, 2, .if_icmp .eq 25, 0, 0, 0, 99, 0), (160, 1, 0, .aload_n 0, 0, 0, 0, 99, 0), (161, 2, 0, .iload 6, 0, 0, 0, 99, 0), (163, 2, 0, .iload 5, 0, 0, 0, 99, 0), (165, 3, 4, .invokevirtual 60, 55, 3, 0, 3, 31), (168, 1, 0, .aload_n 0, 0, 0, 0, 99, 0), (169, 2, 0, .iload 5, 0, 0, 0, 99, 0), (171, 3, 4, .invokevirtual 56, 46, 2, 0, 2, 230), (174, 2, 0, .istore 6, 0, 0, 0, 99, 0), (176, 3, 0, .iinc 7 1, 0, 0, 0, 99, 0), (179, 3, 2, .goto (-33), 0, 0, 0, 99, 0), (182, 3, 0, .iinc 5 1, 0, 0, 0, 99, 0), (185, 3, 2, .goto (-71), 0, 0, 0, 99, 0), (188, 1, 2, .return_, 0, 0, 0, 99, 0)]
def pgX3_pick : List (Nat × Nat × z_En) := [(0, 1, 0, .aload_n 0, 0, 0, 0, 99, 0), (1, 3, 3, .getfield 25, 3, 1, 1, 1, 102), (4, 3, 3, .getfield 64, 4, 0, 0, 1, 85), (7, 25, 2, .tableswitch 43 3 5 #[25, 31, 37], 0, 0, 0, 99, 0), (32, 1, 0, .aload_n 0, 0, 0, 0, 99, 0), (33, 1, 0, .iload_n 1, 0, 0, 0, 99, 0), (34, 3, 4, .invokevirtual 69, 48, 2, 0, 2, 234), (37, 1, 2, .ireturn, 0, 0, 0, 99, 0), (38, 1, 0, .aload_n 0, 0, 0, 0, 99, 0), (39, 1, 0, .iload_n 1, 0, 0, 0, 99, 0), (40, 3, 4, .invokevirtual 72, 49, 2, 0, 3, 18), (43, 1, 2, .ireturn, 0, 0, 0, 99, 0), (44, 1, 0, .aload_n 0, 0, 0, 0, 99, 0), (45, 1, 0, .iload_n 1, 0, 0, 0, 99, 0), (46, 3, 4, .invokevirtual 75, 50, 2, 0, 3, 23), (49, 1, 2, .ireturn, 0, 0, 0, 99, 0), (50, 1, 0, .aload_n 0, 0, 0, 0, 99, 0), (51, 1, 0, .iload_n 1, 0, 0, 0, 99, 0), (52, 3, 4, .invokevirtual 78, 47, 2, 0, 3, 27), (55, 1, 2, .ireturn, 0, 0, 0, 99, 0)]
def pgX3_pickByCard : List (Nat × Nat × z_En) := [(0, 1, 0, .iconst 0, 0, 0, 0, 99, 0), (1, 1, 0, .istore_n 2, 0, 0, 0, 99, 0), (2, 1, 0, .iload_n 2, 0, 0, 0, 99, 0), (3, 1, 0, .aload_n 0, 0, 0, 0, 99, 0), (4, 3, 3, .getfield 21, 3, 0, 1, 1, 101), (7, 3, 3, .getfield 42, 0, 2, 0, 1, 197), (10, 3, 2, .if_icmp .ge 32, 0, 0, 0, 99, 0), (13, 1, 0, .aload_n 0, 0, 0, 0, 99, 0), (14, 1, 0, .aload_n 0, 0, 0, 0, 99, 0), (15, 3, 3, .getfield 25, 3, 1, 1, 1, 102), (18, 3, 3, .getfield 81, 4, 1, 1, 1, 88), (21, 1, 0, .iload_n 2, 0, 0, 0, 99, 0), (22, 1, 3, .iaload, 0, 0, 0, 99, 0), (23, 1, 0, .iload_n 1, 0, 0, 0, 99, 0), (24, 3, 4, .invokevirtual 84, 51, 3, 0, 2, 238), (27, 1, 0, .istore_n 3, 0, 0, 0, 99, 0), (28, 1, 0, .iload_n 3, 0, 0, 0, 99, 0), (29, 2, 0, .bipush (-9), 0, 0, 0, 99, 0), (31, 3, 2, .if_icmp .eq 5, 0, 0, 0, 99, 0), (34, 1, 0, .iload_n 3, 0, 0, 0, 99, 0), (35, 1, 2, .ireturn, 0, 0, 0, 99, 0), (36, 3, 0, .iinc 2 1, 0, 0, 0, 99, 0), (39, 3, 2, .goto (-37), 0, 0, 0, 99, 0), (42, 2, 0, .bipush (-9), 0, 0, 0, 99, 0), (44, 1, 2, .ireturn, 0, 0, 0, 99, 0)]
def pgX3_pickNext : List (Nat × Nat × z_En) := [(0, 2, 0, .bipush (-9), 0, 0, 0, 99, 0), (2, 1, 0, .istore_n 2, 0, 0, 0, 99, 0), (3, 1, 0, .iconst 0, 0, 0, 0, 99, 0), (4, 1, 0, .istore_n 3, 0, 0, 0, 99, 0), (5, 1, 0, .iconst 0, 0, 0, 0, 99, 0), (6, 2, 0, .istore 4, 0, 0, 0, 99, 0), (8, 2, 0, .iload 4, 0, 0, 0, 99, 0), (10, 1, 0, .aload_n 0, 0, 0, 0, 99, 0), (11, 3, 3, .getfield 21, 3, 0, 1, 1, 101), (14, 3, 3, .getfield 42, 0, 2, 0, 1, 197), (17, 3, 2, .if_icmp .ge 53, 0, 0, 0, 99, 0), (20, 1, 0, .aload_n 0, 0, 0, 0, 99, 0), (21, 2, 0, .iload 4, 0, 0, 0, 99, 0), (23, 1, 0, .iload_n 1, 0, 0, 0, 99, 0), (24, 3, 4, .invokevirtual 84, 51, 3, 0, 2, 238), (27, 2, 0, .istore 5, 0, 0, 0, 99, 0), (29, 2, 0, .iload 5, 0, 0, 0, 99, 0), (31, 2, 0, .bipush (-9), 0, 0, 0, 99, 0), (33, 3, 2, .if_icmp .eq 31, 0, 0, 0, 99, 0), (36, 1, 0, .iload_n 2, 0, 0, 0, 99, 0), (37, 2, 0, .bipush (-9), 0, 0, 0, 99, 0), (39, 3, 2, .if_icmp .eq 14, 0, 0, 0, 99, 0), (42, 1, 0, .aload_n 0, 0, 0, 0, 99, 0), (43, 3, 3, .getfield 9, 3, 4, 1, 1, 105), (46, 2, 0, .iload 4, 0, 0, 0, 99, 0), (48, 1, 3, .iaload, 0, 0, 0, 99, 0), (49, 1, 0, .iload_n 3, 0, 0, 0, 99, 0), (50, 3, 2, .if_icmp .ge 14, 0, 0, 0, 99, 0), (53, 2, 0, .iload 5, 0, 0, 0, 99, 0), (55, 1, 0, .istore_n 2, 0, 0, 0, 99, 0), (56, 1, 0, .aload_n 0, 0, 0, 0, 99, 0), (57, 3, 3, .getfield 9, 3, 4, 1, 1, 105), (60, 2, 0, .iload 4, 0, 0, 0, 99, 0), (62, 1, 3, .iaload, 0, 0, 0, 99, 0), (63, 1, 0, .istore_n 3, 0, 0, 0, 99, 0), (64, 3, 0, .iinc 4 1, 0, 0, 0, 99, 0), (67, 3, 2, .goto (-59), 0, 0, 0, 99, 0), (70, 1, 0, .iload_n 2, 0, 0, 0, 99, 0), (71, 1, 2, .ireturn, 0, 0, 0, 99, 0)]
def pgX3_pickDear : List (Nat × Nat × z_En) := [(0, 2, 0, .bipush (-9), 0, 0, 0, 99, 0), (2, 1, 0, .istore_n 2, 0, 0, 0, 99, 0), (3, 1, 0, .iconst 0, 0, 0, 0, 99, 0), (4, 1, 0, .istore_n 3, 0, 0, 0, 99, 0), (5, 1, 0, .iconst 0, 0, 0, 0, 99, 0), (6, 2, 0, .istore 4, 0, 0, 0, 99, 0), (8, 2, 0, .iload 4, 0, 0, 0, 99, 0), (10, 1, 0, .aload_n 0, 0, 0, 0, 99, 0), (11, 3, 3, .getfield 21, 3, 0, 1, 1, 101), (14, 3, 3, .getfield 50, 0, 3, 0, 1, 201), (17, 3, 2, .if_icmp .ge 53, 0, 0, 0, 99, 0), (20, 1, 0, .aload_n 0, 0, 0, 0, 99, 0), (21, 2, 0, .iload 4, 0, 0, 0, 99, 0), (23, 1, 0, .iload_n 1, 0, 0, 0, 99, 0), (24, 3, 4, .invokevirtual 88, 52, 3, 0, 3, 7), (27, 3, 2, .ifCond .eq 37, 0, 0, 0, 99, 0), (30, 1, 0, .iload_n 2, 0, 0, 0, 99, 0), (31, 2, 0, .bipush (-9), 0, 0, 0, 99, 0), (33, 3, 2, .if_icmp .eq 17, 0, 0, 0, 99, 0), (36, 1, 0, .aload_n 0, 0, 0, 0, 99, 0), (37, 3, 3, .getfield 21, 3, 0, 1, 1, 101), (40, 2, 0, .iload 4, 0, 0, 0, 99, 0), (42, 1, 0, .iload_n 1, 0, 0, 0, 99, 0), (43, 3, 4, .invokevirtual 92, 14, 3, 0, 3, 22), (46, 1, 0, .iload_n 3, 0, 0, 0, 99, 0), (47, 3, 2, .if_icmp .le 17, 0, 0, 0, 99, 0), (50, 2, 0, .iload 4, 0, 0, 0, 99, 0), (52, 1, 0, .istore_n 2, 0, 0, 0, 99, 0), (53, 1, 0, .aload_n 0, 0, 0, 0, 99, 0), (54, 3, 3, .getfield 21, 3, 0, 1, 1, 101), (57, 2, 0, .iload 4, 0, 0, 0, 99, 0), (59, 1, 0, .iload_n 1, 0, 0, 0, 99, 0), (60, 3, 4, .invokevirtual 92, 14, 3, 0, 3, 22), (63, 1, 0, .istore_n 3, 0, 0, 0, 99, 0), (64, 3, 0, .iinc 4 1, 0, 0, 0, 99, 0), (67, 3, 2, .goto (-59), 0, 0, 0, 99, 0), (70, 1, 0, .iload_n 2, 0, 0, 0, 99, 0), (71, 1, 2, .ireturn, 0, 0, 0, 99, 0)]
def pgX3_pickShort : List (Nat × Nat × z_En) := [(0, 2, 0, .bipush (-9), 0, 0, 0, 99, 0), (2, 1, 0, .istore_n 2, 0, 0, 0, 99, 0), (3, 1, 0, .iconst 0, 0, 0, 0, 99, 0), (4, 1, 0, .istore_n 3, 0, 0, 0, 99, 0), (5, 1, 0, .iconst 0, 0, 0, 0, 99, 0), (6, 2, 0, .istore 4, 0, 0, 0, 99, 0), (8, 2, 0, .iload 4, 0, 0, 0, 99, 0), (10, 1, 0, .aload_n 0, 0, 0, 0, 99, 0), (11, 3, 3, .getfield 21, 3, 0, 1, 1, 101), (14, 3, 3, .getfield 50, 0, 3, 0, 1, 201), (17, 3, 2, .if_icmp .ge 53, 0, 0, 0, 99, 0), (20, 1, 0, .aload_n 0, 0, 0, 0, 99, 0), (21, 2, 0, .iload 4, 0, 0, 0, 99, 0), (23, 1, 0, .iload_n 1, 0, 0, 0, 99, 0), (24, 3, 4, .invokevirtual 88, 52, 3, 0, 3, 7), (27, 3, 2, .ifCond .eq 37, 0, 0, 0, 99, 0), (30, 1, 0, .iload_n 2, 0, 0, 0, 99, 0), (31, 2, 0, .bipush (-9), 0, 0, 0, 99, 0), (33, 3, 2, .if_icmp .eq 17, 0, 0, 0, 99, 0), (36, 1, 0, .aload_n 0, 0, 0, 0, 99, 0), (37, 3, 3, .getfield 21, 3, 0, 1, 1, 101), (40, 3, 3, .getfield 95, 0, 14, 1, 2, 0), (43, 2, 0, .iload 4, 0, 0, 0, 99, 0), (45, 1, 3, .iaload, 0, 0, 0, 99, 0), (46, 1, 0, .iload_n 3, 0, 0, 0, 99, 0), (47, 3, 2, .if_icmp .ge 17, 0, 0, 0, 99, 0), (50, 2, 0, .iload 4, 0, 0, 0, 99, 0), (52, 1, 0, .istore_n 2, 0, 0, 0, 99, 0), (53, 1, 0, .aload_n 0, 0, 0, 0, 99, 0), (54, 3, 3, .getfield 21, 3, 0, 1, 1, 101), (57, 3, 3, .getfield 95, 0, 14, 1, 2, 0), (60, 2, 0, .iload 4, 0, 0, 0, 99, 0), (62, 1, 3, .iaload, 0, 0, 0, 99, 0), (63, 1, 0, .istore_n 3, 0, 0, 0, 99, 0), (64, 3, 0, .iinc 4 1, 0, 0, 0, 99, 0), (67, 3, 2, .goto (-59), 0, 0, 0, 99, 0), (70, 1, 0, .iload_n 2, 0, 0, 0, 99, 0), (71, 1, 2, .ireturn, 0, 0, 0, 99, 0)]
def pgX3_firstOf : List (Nat × Nat × z_En) := [(0, 1, 0, .aload_n 0, 0, 0, 0, 99, 0), (1, 3, 3, .getfield 21, 3, 0, 1, 1, 101), (4, 1, 0, .iload_n 1, 0, 0, 0, 99, 0), (5, 3, 4, .invokevirtual 98, 3, 2, 0, 3, 2), (8, 3, 2, .ifCond .eq 21, 0, 0, 0, 99, 0), (11, 1, 0, .iload_n 2, 0, 0, 0, 99, 0), (12, 1, 0, .aload_n 0, 0, 0, 0, 99, 0), (13, 3, 3, .getfield 9, 3, 4, 1, 1, 105), (16, 1, 0, .iload_n 1, 0, 0, 0, 99, 0), (17, 1, 3, .iaload, 0, 0, 0, 99, 0), (18, 3, 2, .if_icmp .lt 11, 0, 0, 0, 99, 0), (21, 1, 0, .aload_n 0, 0, 0, 0, 99, 0), (22, 1, 0, .iload_n 1, 0, 0, 0, 99, 0), (23, 3, 4, .invokevirtual 102, 53, 2, 0, 3, 3), (26, 3, 2, .ifCond .eq 6, 0, 0, 0, 99, 0), (29, 2, 0, .bipush (-9), 0, 0, 0, 99, 0), (31, 1, 2, .ireturn, 0, 0, 0, 99, 0), (32, 1, 0, .iconst 0, 0, 0, 0, 99, 0), (33, 1, 0, .istore_n 3, 0, 0, 0, 99, 0), (34, 1, 0, .iload_n 3, 0, 0, 0, 99, 0), (35, 1, 0, .aload_n 0, 0, 0, 0, 99, 0), (36, 3, 3, .getfield 21, 3, 0, 1, 1, 101), (39, 3, 3, .getfield 50, 0, 3, 0, 1, 201), (42, 3, 2, .if_icmp .ge 33, 0, 0, 0, 99, 0), (45, 1, 0, .aload_n 0, 0, 0, 0, 99, 0), (46, 3, 3, .getfield 21, 3, 0, 1, 1, 101), (49, 3, 3, .getfield 105, 0, 12, 1, 1, 231), (52, 1, 0, .iload_n 3, 0, 0, 0, 99, 0), (53, 1, 3, .iaload, 0, 0, 0, 99, 0), (54, 1, 0, .iload_n 1, 0, 0, 0, 99, 0), (55, 3, 2, .if_icmp .ne 14, 0, 0, 0, 99, 0), (58, 1, 0, .aload_n 0, 0, 0, 0, 99, 0), (59, 1, 0, .iload_n 3, 0, 0, 0, 99, 0), (60, 1, 0, .iload_n 2, 0, 0, 0, 99, 0), (61, 3, 4, .invokevirtual 88, 52, 3, 0, 3, 7), (64, 3, 2, .ifCond .eq 5, 0, 0, 0, 99, 0), (67, 1, 0, .iload_n 3, 0, 0, 0, 99, 0), (68, 1, 2, .ireturn, 0, 0, 0, 99, 0), (69, 3, 0, .iinc 3 1, 0, 0, 0, 99, 0), (72, 3, 2, .goto (-38), 0, 0, 0, 99, 0), (75, 2, 0, .bipush (-9), 0, 0, 0, 99, 0), (77, 1, 2, .ireturn, 0, 0, 0, 99, 0)]
def pgX3_mayBegin : List (Nat × Nat × z_En) := [(0, 1, 0, .aload_n 0, 0, 0, 0, 99, 0), (1, 3, 3, .getfield 21, 3, 0, 1, 1, 101), (4, 3, 3, .getfield 108, 0, 13, 1, 1, 235), (7, 1, 0, .iload_n 1, 0, 0, 0, 99, 0), (8, 1, 3, .iaload, 0, 0, 0, 99, 0), (9, 1, 0, .istore_n 3, 0, 0, 0, 99, 0), (10, 1, 0, .aload_n 0, 0, 0, 0, 99, 0), (11, 3, 3, .getfield 38, 3, 3, 0, 1, 104), (14, 1, 0, .iload_n 1, 0, 0, 0, 99, 0), (15, 1, 1, .ishr, 0, 0, 0, 99, 0), (16, 1, 0, .iconst 1, 0, 0, 0, 99, 0), (17, 1, 1, .iand, 0, 0, 0, 99, 0), (18, 3, 2, .ifCond .ne 33, 0, 0, 0, 99, 0), (21, 1, 0, .iload_n 2, 0, 0, 0, 99, 0), (22, 1, 0, .aload_n 0, 0, 0, 0, 99, 0), (23, 3, 3, .getfield 9, 3, 4, 1, 1, 105), (26, 1, 0, .aload_n 0, 0, 0, 0, 99, 0), (27, 3, 3, .getfield 21, 3, 0, 1, 1, 101), (30, 3, 3, .getfield 105, 0, 12, 1, 1, 231), (33, 1, 0, .iload_n 1, 0, 0, 0, 99, 0), (34, 1, 3, .iaload, 0, 0, 0, 99, 0), (35, 1, 3, .iaload, 0, 0, 0, 99, 0), (36, 3, 2, .if_icmp .lt 15, 0, 0, 0, 99, 0), (39, 1, 0, .iload_n 2, 0, 0, 0, 99, 0), (40, 1, 0, .aload_n 0, 0, 0, 0, 99, 0), (41, 3, 3, .getfield 21, 3, 0, 1, 1, 101), (44, 1, 0, .iload_n 1, 0, 0, 0, 99, 0), (45, 3, 4, .invokevirtual 111, 17, 2, 0, 3, 11), (48, 3, 2, .if_icmp .le 5, 0, 0, 0, 99, 0), (51, 1, 0, .iconst 0, 0, 0, 0, 99, 0), (52, 1, 2, .ireturn, 0, 0, 3, 99, 0), (53, 1, 0, .iload_n 2, 0, 0, 0, 99, 0), (54, 1, 0, .aload_n 0, 0, 0, 0, 99, 0), (55, 3, 3, .getfield 21, 3, 0, 1, 1, 101), (58, 3, 3, .getfield 114, 0, 5, 1, 1, 212), (61, 1, 0, .iload_n 3, 0, 0, 0, 99, 0), (62, 1, 3, .iaload, 0, 0, 0, 99, 0), (63, 3, 2, .if_icmp .lt 33, 0, 0, 0, 99, 0), (66, 1, 0, .aload_n 0, 0, 0, 0, 99, 0), (67, 3, 3, .getfield 21, 3, 0, 1, 1, 101), (70, 3, 3, .getfield 117, 0, 18, 1, 2, 9), (73, 1, 0, .iload_n 1, 0, 0, 0, 99, 0), (74, 1, 3, .iaload, 0, 0, 0, 99, 0), (75, 1, 0, .aload_n 0, 0, 0, 0, 99, 0), (76, 3, 3, .getfield 38, 3, 3, 0, 1, 104), (79, 1, 0, .iconst (-1), 0, 0, 0, 99, 0), (80, 1, 1, .ixor, 0, 0, 0, 99, 0), (81, 1, 1, .iand, 0, 0, 0, 99, 0), (82, 3, 2, .ifCond .ne 14, 0, 0, 0, 99, 0), (85, 1, 0, .aload_n 0, 0, 0, 0, 99, 0), (86, 1, 0, .iload_n 3, 0, 0, 0, 99, 0), (87, 1, 0, .iload_n 2, 0, 0, 0, 99, 0), (88, 3, 4, .invokevirtual 120, 54, 3, 0, 3, 12), (91, 2, 0, .bipush (-9), 0, 0, 0, 99, 0), (93, 3, 2, .if_icmp .ne 5, 0, 0, 0, 99, 0), (96, 1, 0, .iconst 0, 0, 0, 0, 99, 0), (97, 1, 2, .ireturn, 0, 0, 3, 99, 0), (98, 1, 0, .aload_n 0, 0, 0, 0, 99, 0), (99, 3, 3, .getfield 21, 3, 0, 1, 1, 101), (102, 1, 0, .iload_n 1, 0, 0, 0, 99, 0), (103, 1, 0, .iload_n 2, 0, 0, 0, 99, 0), (104, 3, 4, .invokevirtual 123, 15, 3, 0, 3, 16), (107, 2, 0, .bipush (-9), 0, 0, 0, 99, 0), (109, 3, 2, .if_icmp .ne 23, 0, 0, 0, 99, 0), (112, 1, 0, .aload_n 0, 0, 0, 0, 99, 0), (113, 3, 3, .getfield 21, 3, 0, 1, 1, 101), (116, 1, 0, .iload_n 1, 0, 0, 0, 99, 0), (117, 1, 0, .iload_n 2, 0, 0, 0, 99, 0), (118, 1, 0, .aload_n 0, 0, 0, 0, 99, 0), (119, 3, 3, .getfield 34, 3, 2, 1, 1, 103), (122, 3, 4, .invokevirtual 126, 16, 4, 0, 3, 17), (125, 3, 2, .ifCond .ne 7, 0, 0, 0, 99, 0), (128, 1, 0, .iconst 1, 0, 0, 0, 99, 0), (129, 3, 2, .goto 4, 0, 0, 0, 99, 0), (132, 1, 0, .iconst 0, 0, 0, 0, 99, 0), (133, 1, 2, .ireturn, 0, 0, 3, 99, 0)]
def pgX3_isThrough : List (Nat × Nat × z_En) := [(0, 1, 0, .aload_n 0, 0, 0, 0, 99, 0), (1, 3, 3, .getfield 21, 3, 0, 1, 1, 101), (4, 3, 3, .getfield 130, 0, 10, 1, 1, 226), (7, 1, 0, .iload_n 1, 0, 0, 0, 99, 0), (8, 1, 3, .iaload, 0, 0, 0, 99, 0), (9, 1, 0, .aload_n 0, 0, 0, 0, 99, 0), (10, 3, 3, .getfield 38, 3, 3, 0, 1, 104), (13, 1, 0, .iconst (-1), 0, 0, 0, 99, 0), (14, 1, 1, .ixor, 0, 0, 0, 99, 0), (15, 1, 1, .iand, 0, 0, 0, 99, 0), (16, 3, 2, .ifCond .ne 7, 0, 0, 0, 99, 0), (19, 1, 0, .iconst 1, 0, 0, 0, 99, 0), (20, 3, 2, .goto 4, 0, 0, 0, 99, 0), (23, 1, 0, .iconst 0, 0, 0, 0, 99, 0), (24, 1, 2, .ireturn, 0, 0, 3, 99, 0)]
def pgX3_freeCopy : List (Nat × Nat × z_En) := [(0, 1, 0, .iload_n 1, 0, 0, 0, 99, 0), (1, 1, 0, .iconst 2, 0, 0, 0, 99, 0), (2, 1, 1, .imul, 0, 0, 0, 99, 0), (3, 1, 0, .istore_n 3, 0, 0, 0, 99, 0), (4, 1, 0, .iload_n 3, 0, 0, 0, 99, 0), (5, 1, 0, .iload_n 1, 0, 0, 0, 99, 0), (6, 1, 0, .iconst 2, 0, 0, 0, 99, 0), (7, 1, 1, .imul, 0, 0, 0, 99, 0), (8, 1, 0, .aload_n 0, 0, 0, 0, 99, 0), (9, 3, 3, .getfield 21, 3, 0, 1, 1, 101), (12, 3, 3, .getfield 133, 0, 4, 1, 1, 207), (15, 1, 0, .iload_n 1, 0, 0, 0, 99, 0), (16, 1, 3, .iaload, 0, 0, 0, 99, 0), (17, 1, 1, .iadd, 0, 0, 0, 99, 0), (18, 3, 2, .if_icmp .ge 21, 0, 0, 0, 99, 0), (21, 1, 0, .aload_n 0, 0, 0, 0, 99, 0), (22, 3, 3, .getfield 15, 3, 5, 1, 1, 106), (25, 1, 0, .iload_n 3, 0, 0, 0, 99, 0), (26, 1, 3, .iaload, 0, 0, 0, 99, 0), (27, 1, 0, .iload_n 2, 0, 0, 0, 99, 0), (28, 3, 2, .if_icmp .gt 5, 0, 0, 0, 99, 0), (31, 1, 0, .iload_n 3, 0, 0, 0, 99, 0), (32, 1, 2, .ireturn, 0, 0, 0, 99, 0), (33, 3, 0, .iinc 3 1, 0, 0, 0, 99, 0), (36, 3, 2, .goto (-32), 0, 0, 0, 99, 0), (39, 2, 0, .bipush (-9), 0, 0, 0, 99, 0), (41, 1, 2, .ireturn, 0, 0, 0, 99, 0)]
def pgX3_begin : List (Nat × Nat × z_En) := [(0, 1, 0, .aload_n 0, 0, 0, 0, 99, 0), (1, 3, 3, .getfield 21, 3, 0, 1, 1, 101), (4, 3, 3, .getfield 105, 0, 12, 1, 1, 231), (7, 1, 0, .iload_n 1, 0, 0, 0, 99, 0), (8, 1, 3, .iaload, 0, 0, 0, 99, 0), (9, 1, 0, .istore_n 3, 0, 0, 0, 99, 0), (10, 1, 0, .aload_n 0, 0, 0, 0, 99, 0), (11, 1, 0, .aload_n 0, 0, 0, 0, 99, 0), (12, 3, 3, .getfield 21, 3, 0, 1, 1, 101), (15, 3, 3, .getfield 108, 0, 13, 1, 1, 235), (18, 1, 0, .iload_n 1, 0, 0, 0, 99, 0), (19, 1, 3, .iaload, 0, 0, 0, 99, 0), (20, 1, 0, .iload_n 2, 0, 0, 0, 99, 0), (21, 3, 4, .invokevirtual 120, 54, 3, 0, 3, 12), (24, 2, 0, .istore 4, 0, 0, 0, 99, 0), (26, 1, 0, .aload_n 0, 0, 0, 0, 99, 0), (27, 3, 3, .getfield 34, 3, 2, 1, 1, 103), (30, 1, 0, .iload_n 1, 0, 0, 0, 99, 0), (31, 1, 0, .iload_n 2, 0, 0, 0, 99, 0), (32, 1, 3, .iastore, 0, 0, 0, 99, 0), (33, 1, 0, .aload_n 0, 0, 0, 0, 99, 0), (34, 1, 0, .dup, 0, 0, 0, 99, 0), (35, 3, 3, .getfield 38, 3, 3, 0, 1, 104), (38, 1, 0, .iconst 1, 0, 0, 0, 99, 0), (39, 1, 0, .iload_n 1, 0, 0, 0, 99, 0), (40, 1, 1, .ishl, 0, 0, 0, 99, 0), (41, 1, 1, .ior, 0, 0, 0, 99, 0), (42, 3, 3, .putfield 38, 3, 3, 0, 1, 104), (45, 1, 0, .aload_n 0, 0, 0, 0, 99, 0), (46, 3, 3, .getfield 9, 3, 4, 1, 1, 105), (49, 1, 0, .iload_n 3, 0, 0, 0, 99, 0), (50, 1, 0, .iload_n 2, 0, 0, 0, 99, 0), (51, 1, 0, .aload_n 0, 0, 0, 0, 99, 0), (52, 3, 3, .getfield 21, 3, 0, 1, 1, 101), (55, 3, 3, .getfield 95, 0, 14, 1, 2, 0), (58, 1, 0, .iload_n 1, 0, 0, 0, 99, 0), (59, 1, 3, .iaload, 0, 0, 0, 99, 0), (60, 1, 1, .iadd, 0, 0, 0, 99, 0), (61, 1, 3, .iastore, 0, 0, 0, 99, 0), (62, 2, 0, .iload 4, 0, 0, 0, 99, 0), (64, 2, 0, .bipush (-9), 0, 0, 0, 99, 0), (66, 3, 2, .if_icmp .eq 47, 0, 0, 0, 99, 0), (69, 1, 0, .aload_n 0, 0, 0, 0, 99, 0), (70, 3, 3, .getfield 18, 3, 6, 1, 1, 107), (73, 2, 0, .iload 4, 0, 0, 0, 99, 0), (75, 1, 0, .iload_n 3, 0, 0, 0, 99, 0), (76, 1, 3, .iastore, 0, 0, 0, 99, 0), (77, 1, 0, .aload_n 0, 0, 0, 0, 99, 0), (78, 3, 3, .getfield 15, 3, 5, 1, 1, 106), (81, 2, 0, .iload 4, 0, 0, 0, 99, 0), (83, 1, 0, .aload_n 0, 0, 0, 0, 99, 0), (84, 3, 3, .getfield 25, 3, 1, 1, 1, 102), (87, 3, 3, .getfield 64, 4, 0, 0, 1, 85), (90, 1, 0, .iconst 2, 0, 0, 0, 99, 0), (91, 3, 2, .if_icmp .ne 15, 0, 0, 0, 99, 0), (94, 1, 0, .aload_n 0, 0, 0, 0, 99, 0), (95, 3, 3, .getfield 21, 3, 0, 1, 1, 101), (98, 3, 3, .getfield 136, 0, 9, 1, 1, 223), (101, 1, 0, .iload_n 3, 0, 0, 0, 99, 0), (102, 1, 3, .iaload, 0, 0, 0, 99, 0), (103, 3, 2, .goto 9, 0, 0, 0, 99, 0), (106, 1, 0, .aload_n 0, 0, 0, 0, 99, 0), (107, 3, 3, .getfield 9, 3, 4, 1, 1, 105), (110, 1, 0, .iload_n 3, 0, 0, 0, 99, 0), (111, 1, 3, .iaload, 0, 0, 0, 99, 0), (112, 1, 3, .iastore, 0, 0, 0, 99, 0), (113, 1, 0, .aload_n 0, 0, 0, 0, 99, 0), (114, 3, 3, .getfield 25, 3, 1, 1, 1, 102), (117, 3, 3, .getfield 64, 4, 0, 0, 1, 85), (120, 1, 0, .iconst 2, 0, 0, 0, 99, 0), (121, 3, 2, .if_icmp .ne 16, 0, 0, 0, 99, 0), (124, 1, 0, .aload_n 0, 0, 0, 0, 99, 0), (125, 1, 0, .iload_n 3, 0, 0, 0, 99, 0), (126, 3, 4, .invokevirtual 102, 53, 2, 0, 3, 3), (129, 3, 2, .ifCond .eq 8, 0, 0, 0, 99, 0), (132, 1, 0, .aload_n 0, 0, 0, 0, 99, 0), (133, 1, 0, .iload_n 3, 0, 0, 0, 99, 0), (134, 3, 4, .invokevirtual 139, 56, 2, 0, 3, 35), (137, 1, 2, .return_, 0, 0, 0, 99, 0)]
def pgX3_letGo : List (Nat × Nat × z_En) := [(0, 1, 0, .iconst 0, 0, 0, 0, 99, 0), (1, 1, 0, .istore_n 2, 0, 0, 0, 99, 0), (2, 1, 0, .iload_n 2, 0, 0, 0, 99, 0), (3, 2, 0, .bipush 12, 0, 0, 0, 99, 0), (5, 3, 2, .if_icmp .ge 31, 0, 0, 0, 99, 0), (8, 1, 0, .aload_n 0, 0, 0, 0, 99, 0), (9, 3, 3, .getfield 18, 3, 6, 1, 1, 107), (12, 1, 0, .iload_n 2, 0, 0, 0, 99, 0), (13, 1, 3, .iaload, 0, 0, 0, 99, 0), (14, 1, 0, .iload_n 1, 0, 0, 0, 99, 0), (15, 3, 2, .if_icmp .ne 15, 0, 0, 0, 99, 0), (18, 1, 0, .aload_n 0, 0, 0, 0, 99, 0), (19, 3, 3, .getfield 15, 3, 5, 1, 1, 106), (22, 1, 0, .iload_n 2, 0, 0, 0, 99, 0), (23, 1, 0, .aload_n 0, 0, 0, 0, 99, 0), (24, 3, 3, .getfield 9, 3, 4, 1, 1, 105), (27, 1, 0, .iload_n 1, 0, 0, 0, 99, 0), (28, 1, 3, .iaload, 0, 0, 0, 99, 0), (29, 1, 3, .iastore, 0, 0, 0, 99, 0), (30, 3, 0, .iinc 2 1, 0, 0, 0, 99, 0), (33, 3, 2, .goto (-31), 0, 0, 0, 99, 0), (36, 1, 2, .return_, 0, 0, 0, 99, 0)]
def pgX4_init : List (Nat × Nat × z_En) := [(0, 1, 0, .aload_n 0, 0, 0, 0, 99, 0), (1, 3, 4, .invokespecial 3, 0, 0, 13, 1, 83), (4, 1, 0, .aload_n 0, 0, 0, 0, 99, 0), (5, 1, 0, .iconst 0, 0, 0, 0, 99, 0), (6, 3, 3, .putfield 11, 4, 0, 0, 1, 84), (9, 1, 0, .aload_n 0, 0, 0, 0, 99, 0), (10, 2, 0, .bipush 8, 0, 0, 0, 99, 0), (12, 2, 3, .newarray .int, 10, 0, 0, 99, 0), (14, 3, 3, .putfield 15, 4, 1, 1, 1, 87), (17, 1, 2, .return_, 0, 0, 0, 99, 0)]
def pgX4_isCard : List (Nat × Nat × z_En) := [(0, 1, 0, .aload_n 0, 0, 0, 0, 99, 0), (1, 3, 3, .getfield 11, 4, 0, 0, 1, 85), (4, 1, 0, .iconst 1, 0, 0, 0, 99, 0), (5, 3, 2, .if_icmp .eq 11, 0, 0, 0, 99, 0), (8, 1, 0, .aload_n 0, 0, 0, 0, 99, 0), (9, 3, 3, .getfield 11, 4, 0, 0, 1, 85), (12, 1, 0, .iconst 2, 0, 0, 0, 99, 0), (13, 3, 2, .if_icmp .ne 7, 0, 0, 0, 99, 0), (16, 1, 0, .iconst 1, 0, 0, 0, 99, 0), (17, 3, 2, .goto 4, 0, 0, 0, 99, 0), (20, 1, 0, .iconst 0, 0, 0, 0, 99, 0), (21, 1, 2, .ireturn, 0, 0, 3, 99, 0)]
def pgX4_isOf : List (Nat × Nat × z_En) := [(0, 1, 0, .aload_n 0, 0, 0, 0, 99, 0), (1, 3, 3, .getfield 11, 4, 0, 0, 1, 85), (4, 1, 0, .iload_n 1, 0, 0, 0, 99, 0), (5, 3, 2, .if_icmp .eq 16, 0, 0, 0, 99, 0), (8, 1, 0, .aload_n 0, 0, 0, 0, 99, 0), (9, 3, 3, .getfield 11, 4, 0, 0, 1, 85), (12, 1, 0, .iconst 2, 0, 0, 0, 99, 0), (13, 3, 2, .if_icmp .ne 12, 0, 0, 0, 99, 0), (16, 1, 0, .iload_n 1, 0, 0, 0, 99, 0), (17, 1, 0, .iconst 1, 0, 0, 0, 99, 0), (18, 3, 2, .if_icmp .ne 7, 0, 0, 0, 99, 0), (21, 1, 0, .iconst 1, 0, 0, 0, 99, 0), (22, 3, 2, .goto 4, 0, 0, 0, 99, 0), (25, 1, 0, .iconst 0, 0, 0, 0, 99, 0), (26, 1, 2, .ireturn, 0, 0, 3, 99, 0)]
def pgX4_beginCard : List (Nat × Nat × z_En) := [(0, 1, 0, .aload_n 0, 0, 0, 0, 99, 0), (1, 1, 0, .iconst 1, 0, 0, 0, 99, 0), (2, 3, 3, .putfield 11, 4, 0, 0, 1, 84), (5, 1, 0, .iconst 0, 0, 0, 0, 99, 0), (6, 1, 0, .istore_n 2, 0, 0, 0, 99, 0), (7, 1, 0, .iload_n 2, 0, 0, 0, 99, 0), (8, 1, 0, .iload_n 1, 0, 0, 0, 99, 0), (9, 3, 2, .if_icmp .ge 22, 0, 0, 0, 99, 0), (12, 1, 0, .iload_n 2, 0, 0, 0, 99, 0), (13, 2, 0, .bipush 8, 0, 0, 0, 99, 0), (15, 3, 2, .if_icmp .ge 16, 0, 0, 0, 99, 0), (18, 1, 0, .aload_n 0, 0, 0, 0, 99, 0), (19, 3, 3, .getfield 15, 4, 1, 1, 1, 87), (22, 1, 0, .iload_n 2, 0, 0, 0, 99, 0), (23, 1, 0, .iload_n 2, 0, 0, 0, 99, 0), (24, 1, 3, .iastore, 0, 0, 0, 99, 0), (25, 3, 0, .iinc 2 1, 0, 0, 0, 99, 0), (28, 3, 2, .goto (-21), 0, 0, 0, 99, 0), (31, 1, 2, .return_, 0, 0, 0, 99, 0)]
def pgX4_nextCard : List (Nat × Nat × z_En) := [(0, 1, 0, .iload_n 1, 0, 0, 0, 99, 0), (1, 2, 0, .bipush 8, 0, 0, 0, 99, 0), (3, 3, 4, .invokestatic 19, 0, 0, 11, 3, 52), (6, 1, 0, .iconst 2, 0, 0, 0, 99, 0), (7, 1, 1, .isub, 0, 0, 0, 99, 0), (8, 1, 0, .istore_n 2, 0, 0, 0, 99, 0), (9, 1, 0, .iload_n 2, 0, 0, 0, 99, 0), (10, 3, 2, .ifCond .lt 26, 0, 0, 0, 99, 0), (13, 1, 0, .aload_n 0, 0, 0, 0, 99, 0), (14, 3, 3, .getfield 15, 4, 1, 1, 1, 87), (17, 1, 0, .iload_n 2, 0, 0, 0, 99, 0), (18, 1, 3, .iaload, 0, 0, 0, 99, 0), (19, 1, 0, .aload_n 0, 0, 0, 0, 99, 0), (20, 3, 3, .getfield 15, 4, 1, 1, 1, 87), (23, 1, 0, .iload_n 2, 0, 0, 0, 99, 0), (24, 1, 0, .iconst 1, 0, 0, 0, 99, 0), (25, 1, 1, .iadd, 0, 0, 0, 99, 0), (26, 1, 3, .iaload, 0, 0, 0, 99, 0), (27, 3, 2, .if_icmp .le 9, 0, 0, 0, 99, 0), (30, 3, 0, .iinc 2 (-1), 0, 0, 0, 99, 0), (33, 3, 2, .goto (-24), 0, 0, 0, 99, 0), (36, 1, 0, .iload_n 2, 0, 0, 0, 99, 0), (37, 3, 2, .ifCond .ge 5, 0, 0, 0, 99, 0), (40, 1, 0, .iconst 0, 0, 0, 0, 99, 0), (41, 1, 2, .ireturn, 0, 0, 3, 99, 0), (42, 1, 0, .iload_n 1, 0, 0, 0, 99, 0), (43, 2, 0, .bipush 8, 0, 0, 0, 99, 0), (45, 3, 4, .invokestatic 19, 0, 0, 11, 3, 52), (48, 1, 0, .iconst 1, 0, 0, 0, 99, 0), (49, 1, 1, .isub, 0, 0, 0, 99, 0), (50, 1, 0, .istore_n 3, 0, 0, 0, 99, 0), (51, 1, 0, .iload_n 3, 0, 0, 0, 99, 0), (52, 1, 0, .iload_n 2, 0, 0, 0, 99, 0), (53, 3, 2, .if_icmp .le 24, 0, 0, 0, 99, 0), (56, 1, 0, .aload_n 0, 0, 0, 0, 99, 0), (57, 3, 3, .getfield 15, 4, 1, 1, 1, 87), (60, 1, 0, .iload_n 3, 0, 0, 0, 99, 0), (61, 1, 3, .iaload, 0, 0, 0, 99, 0), (62, 1, 0, .aload_n 0, 0, 0, 0, 99, 0), (63, 3, 3, .getfield 15, 4, 1, 1, 1, 87), (66, 1, 0, .iload_n 2, 0, 0, 0, 99, 0), (67, 1, 3, .iaload, 0, 0, 0, 99, 0), (68, 3, 2, .if_icmp .ge 9, 0, 0, 0, 99, 0), (71, 3, 0, .iinc 3 (-1), 0, 0, 0, 99, 0), (74, 3, 2, .goto (-23), 0, 0, 0, 99, 0), (77, 1, 0, .aload_n 0, 0, 0, 0, 99, 0), (78, 1, 0, .iload_n 2, 0, 0, 0, 99, 0), (79, 1, 0, .iload_n 3, 0, 0, 0, 99, 0), (80, 3, 4, .invokevirtual 25, 62, 3, 0, 3, 53), (83, 1, 0, .iload_n 1, 0, 0, 0, 99, 0), (84, 2, 0, .bipush 8, 0, 0, 0, 99, 0), (86, 3, 4, .invokestatic 19, 0, 0, 11, 3, 52), (89, 1, 0, .iconst 1, 0, 0, 0, 99, 0), (90, 1, 1, .isub, 0, 0, 0, 99, 0), (91, 2, 0, .istore 4, 0, 0, 0, 99, 0), (93, 1, 0, .iload_n 2, 0, 0, 0, 99, 0), (94, 1, 0, .iconst 1, 0, 0, 0, 99, 0), (95, 1, 1, .iadd, 0, 0, 0, 99, 0), (96, 2, 0, .istore 5, 0, 0, 0, 99, 0), (98, 2, 0, .iload 5, 0, 0, 0, 99, 0), (100, 2, 0, .iload 4, 0, 0, 0, 99, 0), (102, 3, 2, .if_icmp .ge 20, 0, 0, 0, 99, 0), (105, 1, 0, .aload_n 0, 0, 0, 0, 99, 0), (106, 2, 0, .iload 5, 0, 0, 0, 99, 0), (108, 2, 0, .iload 4, 0, 0, 0, 99, 0), (110, 3, 4, .invokevirtual 25, 62, 3, 0, 3, 53), (113, 3, 0, .iinc 4 (-1), 0, 0, 0, 99, 0), (116, 3, 0, .iinc 5 1, 0, 0, 0, 99, 0), (119, 3, 2, .goto (-21), 0, 0, 0, 99, 0), (122, 1, 0, .iconst 1, 0, 0, 0, 99, 0), (123, 1, 2, .ireturn, 0, 0, 3, 99, 0)]
def pgX4_swap : List (Nat × Nat × z_En) := [(0, 1, 0, .aload_n 0, 0, 0, 0, 99, 0), (1, 3, 3, .getfield 15, 4, 1, 1, 1, 87), (4, 1, 0, .iload_n 1, 0, 0, 0, 99, 0), (5, 1, 3, .iaload, 0, 0, 0, 99, 0), (6, 1, 0, .istore_n 3, 0, 0, 0, 99, 0), (7, 1, 0, .aload_n 0, 0, 0, 0, 99, 0), (8, 3, 3, .getfield 15, 4, 1, 1, 1, 87), (11, 1, 0, .iload_n 1, 0, 0, 0, 99, 0), (12, 1, 0, .aload_n 0, 0, 0, 0, 99, 0), (13, 3, 3, .getfield 15, 4, 1, 1, 1, 87), (16, 1, 0, .iload_n 2, 0, 0, 0, 99, 0), (17, 1, 3, .iaload, 0, 0, 0, 99, 0), (18, 1, 3, .iastore, 0, 0, 0, 99, 0), (19, 1, 0, .aload_n 0, 0, 0, 0, 99, 0), (20, 3, 3, .getfield 15, 4, 1, 1, 1, 87), (23, 1, 0, .iload_n 2, 0, 0, 0, 99, 0), (24, 1, 0, .iload_n 3, 0, 0, 0, 99, 0), (25, 1, 3, .iastore, 0, 0, 0, 99, 0), (26, 1, 2, .return_, 0, 0, 0, 99, 0)]
def pgX5_init : List (Nat × Nat × z_En) := [(0, 1, 0, .aload_n 0, 0, 0, 0, 99, 0), (1, 3, 4, .invokespecial 3, 0, 0, 13, 1, 128), (4, 1, 0, .aload_n 0, 0, 0, 0, 99, 0), (5, 2, 0, .bipush 24, 0, 0, 0, 99, 0), (7, 2, 3, .newarray .int, 10, 0, 0, 99, 0), (9, 3, 3, .putfield 9, 5, 1, 1, 1, 132), (12, 1, 0, .aload_n 0, 0, 0, 0, 99, 0), (13, 2, 0, .bipush 8, 0, 0, 0, 99, 0), (15, 2, 3, .newarray .int, 10, 0, 0, 99, 0), (17, 3, 3, .putfield 15, 5, 10, 1, 1, 142), (20, 1, 0, .aload_n 0, 0, 0, 0, 99, 0), (21, 2, 0, .bipush 9, 0, 0, 0, 99, 0), (23, 2, 0, .bipush 8, 0, 0, 0, 99, 0), (25, 4, 3, .multianewarray 18 2, 15, 0, 0, 1, 129), (29, 3, 3, .putfield 20, 5, 11, 1, 1, 143), (32, 1, 0, .aload_n 0, 0, 0, 0, 99, 0), (33, 2, 0, .bipush 8, 0, 0, 0, 99, 0), (35, 2, 3, .newarray .int, 10, 0, 0, 99, 0), (37, 3, 3, .putfield 23, 5, 12, 1, 1, 144), (40, 1, 0, .aload_n 0, 0, 0, 0, 99, 0), (41, 2, 0, .bipush 8, 0, 0, 0, 99, 0), (43, 2, 3, .newarray .int, 10, 0, 0, 99, 0), (45, 3, 3, .putfield 26, 5, 13, 1, 1, 145), (48, 1, 0, .aload_n 0, 0, 0, 0, 99, 0), (49, 2, 0, .bipush 24, 0, 0, 0, 99, 0), (51, 2, 3, .newarray .int, 10, 0, 0, 99, 0), (53, 3, 3, .putfield 29, 5, 14, 1, 1, 146), (56, 1, 0, .aload_n 0, 0, 0, 0, 99, 0), (57, 2, 0, .bipush 8, 0, 0, 0, 99, 0), (59, 2, 3, .newarray .int, 10, 0, 0, 99, 0), (61, 3, 3, .putfield 32, 5, 15, 1, 1, 147), (64, 1, 0, .aload_n 0, 0, 0, 0, 99, 0), (65, 2, 0, .bipush 12, 0, 0, 0, 99, 0), (67, 2, 3, .newarray .int, 10, 0, 0, 99, 0), (69, 3, 3, .putfield 35, 5, 16, 1, 1, 148), (72, 1, 2, .return_, 0, 0, 0, 99, 0)]
def pgX5_start : List (Nat × Nat × z_En) := [(0, 1, 0, .aload_n 0, 0, 0, 0, 99, 0), (1, 1, 0, .aload_n 1, 0, 0, 0, 99, 0), (2, 3, 3, .putfield 38, 5, 2, 1, 1, 134), (5, 1, 0, .aload_n 0, 0, 0, 0, 99, 0), (6, 1, 0, .iload_n 2, 0, 0, 0, 99, 0), (7, 3, 3, .putfield 42, 5, 4, 0, 1, 136), (10, 1, 0, .aload_n 0, 0, 0, 0, 99, 0), (11, 1, 0, .iload_n 3, 0, 0, 0, 99, 0), (12, 3, 3, .putfield 46, 5, 5, 3, 1, 137), (15, 1, 0, .aload_n 0, 0, 0, 0, 99, 0), (16, 1, 0, .iconst 0, 0, 0, 0, 99, 0), (17, 3, 3, .putfield 50, 5, 7, 0, 1, 139), (20, 1, 0, .aload_n 0, 0, 0, 0, 99, 0), (21, 1, 0, .iconst 0, 0, 0, 0, 99, 0), (22, 3, 3, .putfield 53, 5, 8, 0, 1, 140), (25, 1, 0, .aload_n 0, 0, 0, 0, 99, 0), (26, 1, 0, .iconst 0, 0, 0, 0, 99, 0), (27, 3, 3, .putfield 56, 5, 9, 0, 1, 141), (30, 1, 0, .iconst 0, 0, 0, 0, 99, 0), (31, 2, 0, .istore 4, 0, 0, 0, 99, 0), (33, 2, 0, .iload 4, 0, 0, 0, 99, 0), (35, 2, 0, .bipush 24, 0, 0, 0, 99, 0), (37, 3, 2, .if_icmp .ge 18, 0, 0, 0, 99, 0), (40, 1, 0, .aload_n 0, 0, 0, 0, 99, 0), (41, 3, 3, .getfield 29, 5, 14, 1, 1, 146), (44, 2, 0, .iload 4, 0, 0, 0, 99, 0), (46, 2, 0, .bipush (-9), 0, 0, 0, 99, 0), (48, 1, 3, .iastore, 0, 0, 0, 99, 0), (49, 3, 0, .iinc 4 1, 0, 0, 0, 99, 0), (52, 3, 2, .goto (-19), 0, 0, 0, 99, 0), (55, 1, 0, .iconst 0, 0, 0, 0, 99, 0), (56, 2, 0, .istore 4, 0, 0, 0, 99, 0), (58, 2, 0, .iload 4, 0, 0, 0, 99, 0), (60, 2, 0, .bipush 8, 0, 0, 0, 99, 0), (62, 3, 2, .if_icmp .ge 25, 0, 0, 0, 99, 0), (65, 1, 0, .aload_n 0, 0, 0, 0, 99, 0), (66, 3, 3, .getfield 32, 5, 15, 1, 1, 147), (69, 2, 0, .iload 4, 0, 0, 0, 99, 0), (71, 1, 0, .iconst 0, 0, 0, 0, 99, 0), (72, 1, 3, .iastore, 0, 0, 0, 99, 0), (73, 1, 0, .aload_n 0, 0, 0, 0, 99, 0), (74, 3, 3, .getfield 23, 5, 12, 1, 1, 144), (77, 2, 0, .iload 4, 0, 0, 0, 99, 0), (79, 1, 0, .iconst 0, 0, 0, 0, 99, 0), (80, 1, 3, .iastore, 0, 0, 0, 99, 0), (81, 3, 0, .iinc 4 1, 0, 0, 0, 99, 0), (84, 3, 2, .goto (-26), 0, 0, 0, 99, 0), (87, 1, 0, .iconst 0, 0, 0, 0, 99, 0), (88, 2, 0, .istore 4, 0, 0, 0, 99, 0), (90, 2, 0, .iload 4, 0, 0, 0, 99, 0), (92, 2, 0, .bipush 12, 0, 0, 0, 99, 0), (94, 3, 2, .if_icmp .ge 17, 0, 0, 0, 99, 0), (97, 1, 0, .aload_n 0, 0, 0, 0, 99, 0), (98, 3, 3, .getfield 35, 5, 16, 1, 1, 148), (101, 2, 0, .iload 4, 0, 0, 0, 99, 0), (103, 1, 0, .iconst 0, 0, 0, 0, 99, 0), (104, 1, 3, .iastore, 0, 0, 0, 99, 0), (105, 3, 0, .iinc 4 1, 0, 0, 0, 99, 0), (108, 3, 2, .goto (-18), 0, 0, 0, 99, 0), (111, 1, 2, .return_, 0, 0, 0, 99, 0)]
def pgX5_keep : List (Nat × Nat × z_En) := [(0, 1, 0, .aload_n 0, 0, 0, 0, 99, 0), (1, 1, 0, .iload_n 1, 0, 0, 0, 99, 0), (2, 1, 0, .aload_n 0, 0, 0, 0, 99, 0), (3, 3, 3, .getfield 38, 5, 2, 1, 1, 134), (6, 3, 3, .getfield 59, 0, 15, 1, 2, 3), (9, 1, 0, .iload_n 1, 0, 0, 0, 99, 0), (10, 1, 3, .iaload, 0, 0, 0, 99, 0), (11, 3, 4, .invokevirtual 64, 77, 3, 0, 3, 73), (14, 1, 0, .aload_n 0, 0, 0, 0, 99, 0), (15, 1, 0, .iload_n 1, 0, 0, 0, 99, 0), (16, 1, 0, .iload_n 2, 0, 0, 0, 99, 0), (17, 1, 0, .aload_n 0, 0, 0, 0, 99, 0), (18, 1, 0, .aload_n 0, 0, 0, 0, 99, 0), (19, 3, 3, .getfield 38, 5, 2, 1, 1, 134), (22, 3, 3, .getfield 68, 0, 13, 1, 1, 234), (25, 1, 0, .iload_n 1, 0, 0, 0, 99, 0), (26, 1, 3, .iaload, 0, 0, 0, 99, 0), (27, 3, 4, .invokevirtual 71, 74, 2, 0, 3, 101), (30, 3, 4, .invokevirtual 75, 75, 4, 0, 3, 113), (33, 1, 2, .return_, 0, 0, 0, 99, 0)]
def pgX5_add : List (Nat × Nat × z_En) := [(0, 1, 0, .aload_n 0, 0, 0, 0, 99, 0), (1, 3, 3, .getfield 56, 5, 9, 0, 1, 141), (4, 2, 0, .bipush 8, 0, 0, 0, 99, 0), (6, 3, 2, .if_icmp .ge 37, 0, 0, 0, 99, 0), (9, 1, 0, .aload_n 0, 0, 0, 0, 99, 0), (10, 3, 3, .getfield 15, 5, 10, 1, 1, 142), (13, 1, 0, .aload_n 0, 0, 0, 0, 99, 0), (14, 3, 3, .getfield 56, 5, 9, 0, 1, 141), (17, 1, 0, .iload_n 1, 0, 0, 0, 99, 0), (18, 1, 3, .iastore, 0, 0, 0, 99, 0), (19, 1, 0, .aload_n 0, 0, 0, 0, 99, 0), (20, 1, 0, .dup, 0, 0, 0, 99, 0), (21, 3, 3, .getfield 56, 5, 9, 0, 1, 141), (24, 1, 0, .iconst 1, 0, 0, 0, 99, 0), (25, 1, 1, .iadd, 0, 0, 0, 99, 0), (26, 3, 3, .putfield 56, 5, 9, 0, 1, 141), (29, 1, 0, .aload_n 0, 0, 0, 0, 99, 0), (30, 1, 0, .iload_n 1, 0, 0, 0, 99, 0), (31, 1, 0, .aload_n 0, 0, 0, 0, 99, 0), (32, 3, 3, .getfield 38, 5, 2, 1, 1, 134), (35, 3, 3, .getfield 59, 0, 15, 1, 2, 3), (38, 1, 0, .iload_n 1, 0, 0, 0, 99, 0), (39, 1, 3, .iaload, 0, 0, 0, 99, 0), (40, 3, 4, .invokevirtual 64, 77, 3, 0, 3, 73), (43, 1, 2, .return_, 0, 0, 0, 99, 0)]
def pgX5_go : List (Nat × Nat × z_En) := [(0, 1, 0, .aload_n 0, 0, 0, 0, 99, 0), (1, 1, 0, .iload_n 1, 0, 0, 0, 99, 0), (2, 3, 3, .putfield 79, 5, 3, 0, 1, 135), (5, 1, 0, .aload_n 0, 0, 0, 0, 99, 0), (6, 2, 0, .ldc 82, 1000000, 0, 0, 3, 81), (8, 3, 3, .putfield 83, 5, 6, 0, 1, 138), (11, 1, 0, .aload_n 0, 0, 0, 0, 99, 0), (12, 2, 0, .ldc 82, 1000000, 0, 0, 3, 81), (14, 3, 3, .putfield 86, 5, 0, 0, 1, 130), (17, 1, 0, .aload_n 0, 0, 0, 0, 99, 0), (18, 1, 0, .iconst 0, 0, 0, 0, 99, 0), (19, 3, 4, .invokestatic 89, 68, 2, 1, 3, 82), (22, 1, 0, .aload_n 0, 0, 0, 0, 99, 0), (23, 3, 3, .getfield 83, 5, 6, 0, 1, 138), (26, 1, 2, .ireturn, 0, 0, 0, 99, 0)]
def pgX5_grow : List (Nat × Nat × z_En) := [(0, 1, 0, .aload_n 0, 0, 0, 0, 99, 0), (1, 1, 0, .iload_n 1, 0, 0, 0, 99, 0), (2, 3, 4, .invokevirtual 93, 69, 2, 0, 3, 85), (5, 1, 0, .iload_n 1, 0, 0, 0, 99, 0), (6, 1, 0, .aload_n 0, 0, 0, 0, 99, 0), (7, 3, 3, .getfield 56, 5, 9, 0, 1, 141), (10, 3, 2, .if_icmp .ge 21, 0, 0, 0, 99, 0), (13, 1, 0, .iload_n 1, 0, 0, 0, 99, 0), (14, 2, 0, .bipush 8, 0, 0, 0, 99, 0), (16, 3, 2, .if_icmp .ge 15, 0, 0, 0, 99, 0), (19, 1, 0, .aload_n 0, 0, 0, 0, 99, 0), (20, 1, 0, .iload_n 1, 0, 0, 0, 99, 0), (21, 3, 4, .invokevirtual 97, 70, 2, 0, 3, 93), (24, 1, 0, .aload_n 0, 0, 0, 0, 99, 0), (25, 3, 3, .getfield 83, 5, 6, 0, 1, 138), (28, 3, 2, .if_icmp .lt 4, 0, 0, 0, 99, 0), (31, 1, 2, .return_, 0, 0, 0, 99, 0), (32, 1, 0, .iconst 0, 0, 0, 0, 99, 0), (33, 1, 0, .istore_n 2, 0, 0, 0, 99, 0), (34, 1, 0, .iload_n 2, 0, 0, 0, 99, 0), (35, 1, 0, .aload_n 0, 0, 0, 0, 99, 0), (36, 3, 3, .getfield 56, 5, 9, 0, 1, 141), (39, 3, 2, .if_icmp .ge 126, 0, 0, 0, 99, 0), (42, 1, 0, .aload_n 0, 0, 0, 0, 99, 0), (43, 3, 3, .getfield 15, 5, 10, 1, 1, 142), (46, 1, 0, .iload_n 2, 0, 0, 0, 99, 0), (47, 1, 3, .iaload, 0, 0, 0, 99, 0), (48, 1, 0, .istore_n 3, 0, 0, 0, 99, 0), (49, 1, 0, .aload_n 0, 0, 0, 0, 99, 0), (50, 3, 3, .getfield 20, 5, 11, 1, 1, 143), (53, 1, 0, .iload_n 1, 0, 0, 0, 99, 0), (54, 1, 3, .aaload, 15, 0, 0, 99, 0), (55, 1, 0, .iload_n 2, 0, 0, 0, 99, 0), (56, 1, 3, .iaload, 0, 0, 0, 99, 0), (57, 2, 0, .istore 4, 0, 0, 0, 99, 0), (59, 2, 0, .iload 4, 0, 0, 0, 99, 0), (61, 2, 0, .bipush (-9), 0, 0, 0, 99, 0), (63, 3, 2, .if_icmp .eq 96, 0, 0, 0, 99, 0), (66, 1, 0, .aload_n 0, 0, 0, 0, 99, 0), (67, 1, 0, .iload_n 3, 0, 0, 0, 99, 0), (68, 3, 4, .invokevirtual 100, 72, 2, 0, 3, 109), (71, 3, 2, .ifCond .eq 88, 0, 0, 0, 99, 0), (74, 1, 0, .aload_n 0, 0, 0, 0, 99, 0), (75, 3, 3, .getfield 38, 5, 2, 1, 1, 134), (78, 3, 3, .getfield 104, 0, 12, 1, 1, 229), (81, 1, 0, .iload_n 3, 0, 0, 0, 99, 0), (82, 1, 3, .iaload, 0, 0, 0, 99, 0), (83, 2, 0, .istore 5, 0, 0, 0, 99, 0), (85, 1, 0, .aload_n 0, 0, 0, 0, 99, 0), (86, 1, 0, .aload_n 0, 0, 0, 0, 99, 0), (87, 3, 3, .getfield 38, 5, 2, 1, 1, 134), (90, 3, 3, .getfield 68, 0, 13, 1, 1, 234), (93, 1, 0, .iload_n 3, 0, 0, 0, 99, 0), (94, 1, 3, .iaload, 0, 0, 0, 99, 0), (95, 3, 4, .invokevirtual 71, 74, 2, 0, 3, 101), (98, 2, 0, .istore 6, 0, 0, 0, 99, 0), (100, 1, 0, .aload_n 0, 0, 0, 0, 99, 0), (101, 3, 3, .getfield 32, 5, 15, 1, 1, 147), (104, 2, 0, .iload 5, 0, 0, 0, 99, 0), (106, 1, 3, .iaload, 0, 0, 0, 99, 0), (107, 2, 0, .istore 7, 0, 0, 0, 99, 0), (109, 1, 0, .aload_n 0, 0, 0, 0, 99, 0), (110, 3, 3, .getfield 35, 5, 16, 1, 1, 148), (113, 2, 0, .iload 6, 0, 0, 0, 99, 0), (115, 1, 3, .iaload, 0, 0, 0, 99, 0), (116, 2, 0, .istore 8, 0, 0, 0, 99, 0), (118, 1, 0, .aload_n 0, 0, 0, 0, 99, 0), (119, 1, 0, .iload_n 3, 0, 0, 0, 99, 0), (120, 2, 0, .iload 4, 0, 0, 0, 99, 0), (122, 2, 0, .iload 6, 0, 0, 0, 99, 0), (124, 3, 4, .invokevirtual 75, 75, 4, 0, 3, 113), (127, 1, 0, .aload_n 0, 0, 0, 0, 99, 0), (128, 1, 0, .iload_n 1, 0, 0, 0, 99, 0), (129, 1, 0, .iconst 1, 0, 0, 0, 99, 0), (130, 1, 1, .iadd, 0, 0, 0, 99, 0), (131, 3, 4, .invokestatic 89, 68, 2, 1, 3, 82), (134, 1, 0, .aload_n 0, 0, 0, 0, 99, 0), (135, 1, 0, .iload_n 3, 0, 0, 0, 99, 0), (136, 2, 0, .iload 4, 0, 0, 0, 99, 0), (138, 3, 4, .invokevirtual 107, 76, 3, 0, 3, 117), (141, 1, 0, .aload_n 0, 0, 0, 0, 99, 0), (142, 3, 3, .getfield 32, 5, 15, 1, 1, 147), (145, 2, 0, .iload 5, 0, 0, 0, 99, 0), (147, 2, 0, .iload 7, 0, 0, 0, 99, 0), (149, 1, 3, .iastore, 0, 0, 0, 99, 0), (150, 1, 0, .aload_n 0, 0, 0, 0, 99, 0), (151, 3, 3, .getfield 35, 5, 16, 1, 1, 148), (154, 2, 0, .iload 6, 0, 0, 0, 99, 0), (156, 2, 0, .iload 8, 0, 0, 0, 99, 0), (158, 1, 3, .iastore, 0, 0, 0, 99, 0), (159, 3, 0, .iinc 2 1, 0, 0, 0, 99, 0), (162, 3, 2, .goto (-128), 0, 0, 0, 99, 0), (165, 1, 2, .return_, 0, 0, 0, 99, 0)]
def pgX5_weigh : List (Nat × Nat × z_En) := [(0, 2, 0, .ldc 82, 1000000, 0, 0, 3, 81), (2, 1, 0, .istore_n 2, 0, 0, 0, 99, 0), (3, 1, 0, .aload_n 0, 0, 0, 0, 99, 0), (4, 3, 3, .getfield 79, 5, 3, 0, 1, 135), (7, 25, 2, .tableswitch 68 0 2 #[25, 33, 44], 0, 0, 0, 99, 0), (32, 1, 0, .aload_n 0, 0, 0, 0, 99, 0), (33, 3, 3, .getfield 50, 5, 7, 0, 1, 139), (36, 1, 0, .istore_n 2, 0, 0, 0, 99, 0), (37, 3, 2, .goto 53, 0, 0, 0, 99, 0), (40, 1, 0, .aload_n 0, 0, 0, 0, 99, 0), (41, 3, 3, .getfield 23, 5, 12, 1, 1, 144), (44, 3, 4, .invokestatic 110, 71, 1, 1, 3, 89), (47, 1, 0, .istore_n 2, 0, 0, 0, 99, 0), (48, 3, 2, .goto 42, 0, 0, 0, 99, 0), (51, 1, 0, .iload_n 1, 0, 0, 0, 99, 0), (52, 1, 0, .aload_n 0, 0, 0, 0, 99, 0), (53, 3, 3, .getfield 56, 5, 9, 0, 1, 141), (56, 3, 2, .if_icmp .ne 13, 0, 0, 0, 99, 0), (59, 1, 0, .aload_n 0, 0, 0, 0, 99, 0), (60, 3, 3, .getfield 32, 5, 15, 1, 1, 147), (63, 3, 4, .invokestatic 110, 71, 1, 1, 3, 89), (66, 3, 2, .goto 5, 0, 0, 0, 99, 0), (69, 2, 0, .ldc 82, 1000000, 0, 0, 3, 81), (71, 1, 0, .istore_n 2, 0, 0, 0, 99, 0), (72, 3, 2, .goto 18, 0, 0, 0, 99, 0), (75, 1, 0, .iload_n 1, 0, 0, 0, 99, 0), (76, 1, 0, .aload_n 0, 0, 0, 0, 99, 0), (77, 3, 3, .getfield 56, 5, 9, 0, 1, 141), (80, 3, 2, .if_icmp .ne 7, 0, 0, 0, 99, 0), (83, 1, 0, .iconst 0, 0, 0, 0, 99, 0), (84, 3, 2, .goto 5, 0, 0, 0, 99, 0), (87, 2, 0, .ldc 82, 1000000, 0, 0, 3, 81), (89, 1, 0, .istore_n 2, 0, 0, 0, 99, 0), (90, 1, 0, .iload_n 2, 0, 0, 0, 99, 0), (91, 1, 0, .aload_n 0, 0, 0, 0, 99, 0), (92, 3, 3, .getfield 83, 5, 6, 0, 1, 138), (95, 3, 2, .if_icmp .ge 42, 0, 0, 0, 99, 0), (98, 1, 0, .aload_n 0, 0, 0, 0, 99, 0), (99, 1, 0, .iload_n 2, 0, 0, 0, 99, 0), (100, 3, 3, .putfield 83, 5, 6, 0, 1, 138), (103, 1, 0, .aload_n 0, 0, 0, 0, 99, 0), (104, 1, 0, .aload_n 0, 0, 0, 0, 99, 0), (105, 3, 3, .getfield 50, 5, 7, 0, 1, 139), (108, 3, 3, .putfield 86, 5, 0, 0, 1, 130), (111, 1, 0, .iconst 0, 0, 0, 0, 99, 0), (112, 1, 0, .istore_n 3, 0, 0, 0, 99, 0), (113, 1, 0, .iload_n 3, 0, 0, 0, 99, 0), (114, 2, 0, .bipush 24, 0, 0, 0, 99, 0), (116, 3, 2, .if_icmp .ge 21, 0, 0, 0, 99, 0), (119, 1, 0, .aload_n 0, 0, 0, 0, 99, 0), (120, 3, 3, .getfield 9, 5, 1, 1, 1, 132), (123, 1, 0, .iload_n 3, 0, 0, 0, 99, 0), (124, 1, 0, .aload_n 0, 0, 0, 0, 99, 0), (125, 3, 3, .getfield 29, 5, 14, 1, 1, 146), (128, 1, 0, .iload_n 3, 0, 0, 0, 99, 0), (129, 1, 3, .iaload, 0, 0, 0, 99, 0), (130, 1, 3, .iastore, 0, 0, 0, 99, 0), (131, 3, 0, .iinc 3 1, 0, 0, 0, 99, 0), (134, 3, 2, .goto (-21), 0, 0, 0, 99, 0), (137, 1, 2, .return_, 0, 0, 0, 99, 0)]
def pgX5_hope : List (Nat × Nat × z_En) := [(0, 1, 0, .aload_n 0, 0, 0, 0, 99, 0), (1, 3, 3, .getfield 50, 5, 7, 0, 1, 139), (4, 1, 0, .istore_n 2, 0, 0, 0, 99, 0), (5, 1, 0, .aload_n 0, 0, 0, 0, 99, 0), (6, 3, 3, .getfield 32, 5, 15, 1, 1, 147), (9, 3, 4, .invokestatic 110, 71, 1, 1, 3, 89), (12, 1, 0, .istore_n 3, 0, 0, 0, 99, 0), (13, 1, 0, .iconst 1, 0, 0, 0, 99, 0), (14, 2, 0, .istore 4, 0, 0, 0, 99, 0), (16, 1, 0, .iconst 0, 0, 0, 0, 99, 0), (17, 2, 0, .istore 5, 0, 0, 0, 99, 0), (19, 2, 0, .iload 5, 0, 0, 0, 99, 0), (21, 2, 0, .bipush 8, 0, 0, 0, 99, 0), (23, 3, 2, .if_icmp .ge 23, 0, 0, 0, 99, 0), (26, 1, 0, .aload_n 0, 0, 0, 0, 99, 0), (27, 3, 3, .getfield 26, 5, 13, 1, 1, 145), (30, 2, 0, .iload 5, 0, 0, 0, 99, 0), (32, 1, 0, .aload_n 0, 0, 0, 0, 99, 0), (33, 3, 3, .getfield 23, 5, 12, 1, 1, 144), (36, 2, 0, .iload 5, 0, 0, 0, 99, 0), (38, 1, 3, .iaload, 0, 0, 0, 99, 0), (39, 1, 3, .iastore, 0, 0, 0, 99, 0), (40, 3, 0, .iinc 5 1, 0, 0, 0, 99, 0), (43, 3, 2, .goto (-24), 0, 0, 0, 99, 0), (46, 1, 0, .iconst 0, 0, 0, 0, 99, 0), (47, 2, 0, .istore 5, 0, 0, 0, 99, 0), (49, 2, 0, .iload 5, 0, 0, 0, 99, 0), (51, 1, 0, .aload_n 0, 0, 0, 0, 99, 0), (52, 3, 3, .getfield 56, 5, 9, 0, 1, 141), (55, 3, 2, .if_icmp .ge 135, 0, 0, 0, 99, 0), (58, 1, 0, .aload_n 0, 0, 0, 0, 99, 0), (59, 3, 3, .getfield 15, 5, 10, 1, 1, 142), (62, 2, 0, .iload 5, 0, 0, 0, 99, 0), (64, 1, 3, .iaload, 0, 0, 0, 99, 0), (65, 2, 0, .istore 6, 0, 0, 0, 99, 0), (67, 1, 0, .aload_n 0, 0, 0, 0, 99, 0), (68, 3, 3, .getfield 53, 5, 8, 0, 1, 140), (71, 2, 0, .iload 6, 0, 0, 0, 99, 0), (73, 1, 1, .ishr, 0, 0, 0, 99, 0), (74, 1, 0, .iconst 1, 0, 0, 0, 99, 0), (75, 1, 1, .iand, 0, 0, 0, 99, 0), (76, 3, 2, .ifCond .ne 108, 0, 0, 0, 99, 0), (79, 1, 0, .aload_n 0, 0, 0, 0, 99, 0), (80, 2, 0, .iload 6, 0, 0, 0, 99, 0), (82, 3, 4, .invokevirtual 114, 73, 2, 0, 3, 97), (85, 2, 0, .istore 7, 0, 0, 0, 99, 0), (87, 1, 0, .aload_n 0, 0, 0, 0, 99, 0), (88, 3, 3, .getfield 20, 5, 11, 1, 1, 143), (91, 1, 0, .iload_n 1, 0, 0, 0, 99, 0), (92, 1, 3, .aaload, 15, 0, 0, 99, 0), (93, 2, 0, .iload 5, 0, 0, 0, 99, 0), (95, 2, 0, .iload 7, 0, 0, 0, 99, 0), (97, 1, 3, .iastore, 0, 0, 0, 99, 0), (98, 2, 0, .iload 4, 0, 0, 0, 99, 0), (100, 3, 2, .ifCond .eq 14, 0, 0, 0, 99, 0), (103, 2, 0, .iload 7, 0, 0, 0, 99, 0), (105, 2, 0, .bipush (-9), 0, 0, 0, 99, 0), (107, 3, 2, .if_icmp .eq 7, 0, 0, 0, 99, 0), (110, 1, 0, .iconst 1, 0, 0, 0, 99, 0), (111, 3, 2, .goto 4, 0, 0, 0, 99, 0), (114, 1, 0, .iconst 0, 0, 0, 0, 99, 0), (115, 2, 0, .istore 4, 0, 0, 0, 99, 0), (117, 2, 0, .iload 7, 0, 0, 0, 99, 0), (119, 2, 0, .bipush (-9), 0, 0, 0, 99, 0), (121, 3, 2, .if_icmp .ne 7, 0, 0, 0, 99, 0), (124, 1, 0, .iconst 0, 0, 0, 0, 99, 0), (125, 3, 2, .goto 14, 0, 0, 0, 99, 0), (128, 1, 0, .aload_n 0, 0, 0, 0, 99, 0), (129, 3, 3, .getfield 38, 5, 2, 1, 1, 134), (132, 2, 0, .iload 6, 0, 0, 0, 99, 0), (134, 2, 0, .iload 7, 0, 0, 0, 99, 0), (136, 3, 4, .invokevirtual 117, 14, 3, 0, 3, 108), (139, 2, 0, .istore 8, 0, 0, 0, 99, 0), (141, 1, 0, .iload_n 2, 0, 0, 0, 99, 0), (142, 2, 0, .iload 8, 0, 0, 0, 99, 0), (144, 1, 1, .isub, 0, 0, 0, 99, 0), (145, 1, 0, .istore_n 2, 0, 0, 0, 99, 0), (146, 1, 0, .aload_n 0, 0, 0, 0, 99, 0), (147, 3, 3, .getfield 26, 5, 13, 1, 1, 145), (150, 1, 0, .aload_n 0, 0, 0, 0, 99, 0), (151, 3, 3, .getfield 38, 5, 2, 1, 1, 134), (154, 3, 3, .getfield 104, 0, 12, 1, 1, 229), (157, 2, 0, .iload 6, 0, 0, 0, 99, 0), (159, 1, 3, .iaload, 0, 0, 0, 99, 0), (160, 1, 0, .dup2, 0, 0, 0, 99, 0), (161, 1, 3, .iaload, 0, 0, 0, 99, 0), (162, 2, 0, .iload 8, 0, 0, 0, 99, 0), (164, 1, 1, .isub, 0, 0, 0, 99, 0), (165, 1, 3, .iastore, 0, 0, 0, 99, 0), (166, 1, 0, .iload_n 3, 0, 0, 0, 99, 0), (167, 2, 0, .iload 7, 0, 0, 0, 99, 0), (169, 1, 0, .aload_n 0, 0, 0, 0, 99, 0), (170, 3, 3, .getfield 38, 5, 2, 1, 1, 134), (173, 3, 3, .getfield 121, 0, 14, 1, 2, 1), (176, 2, 0, .iload 6, 0, 0, 0, 99, 0), (178, 1, 3, .iaload, 0, 0, 0, 99, 0), (179, 1, 1, .iadd, 0, 0, 0, 99, 0), (180, 3, 4, .invokestatic 124, 0, 0, 10, 3, 92), (183, 1, 0, .istore_n 3, 0, 0, 0, 99, 0), (184, 3, 0, .iinc 5 1, 0, 0, 0, 99, 0), (187, 3, 2, .goto (-138), 0, 0, 0, 99, 0), (190, 1, 0, .aload_n 0, 0, 0, 0, 99, 0), (191, 3, 3, .getfield 79, 5, 3, 0, 1, 135), (194, 26, 2, .tableswitch 48 0 2 #[26, 28, 36], 0, 0, 0, 99, 0), (220, 1, 0, .iload_n 2, 0, 0, 0, 99, 0), (221, 1, 2, .ireturn, 0, 0, 0, 99, 0), (222, 1, 0, .aload_n 0, 0, 0, 0, 99, 0), (223, 3, 3, .getfield 26, 5, 13, 1, 1, 145), (226, 3, 4, .invokestatic 110, 71, 1, 1, 3, 89), (229, 1, 2, .ireturn, 0, 0, 0, 99, 0), (230, 2, 0, .iload 4, 0, 0, 0, 99, 0), (232, 3, 2, .ifCond .eq 7, 0, 0, 0, 99, 0), (235, 1, 0, .iload_n 3, 0, 0, 0, 99, 0), (236, 3, 2, .goto 5, 0, 0, 0, 99, 0), (239, 2, 0, .ldc 82, 1000000, 0, 0, 3, 81), (241, 1, 2, .ireturn, 0, 0, 0, 99, 0), (242, 2, 0, .iload 4, 0, 0, 0, 99, 0), (244, 3, 2, .ifCond .eq 7, 0, 0, 0, 99, 0), (247, 1, 0, .iconst 0, 0, 0, 0, 99, 0), (248, 3, 2, .goto 5, 0, 0, 0, 99, 0), (251, 2, 0, .ldc 82, 1000000, 0, 0, 3, 81), (253, 1, 2, .ireturn, 0, 0, 0, 99, 0)]
def pgX5_worst : List (Nat × Nat × z_En) := [(0, 1, 0, .iconst 0, 0, 0, 0, 99, 0), (1, 1, 0, .istore_n 1, 0, 0, 0, 99, 0), (2, 1, 0, .iconst 0, 0, 0, 0, 99, 0), (3, 1, 0, .istore_n 2, 0, 0, 0, 99, 0), (4, 1, 0, .iload_n 2, 0, 0, 0, 99, 0), (5, 1, 0, .aload_n 0, 0, 0, 0, 99, 0), (6, 1, 3, .arraylength, 10, 0, 0, 99, 0), (7, 3, 2, .if_icmp .ge 17, 0, 0, 0, 99, 0), (10, 1, 0, .iload_n 1, 0, 0, 0, 99, 0), (11, 1, 0, .aload_n 0, 0, 0, 0, 99, 0), (12, 1, 0, .iload_n 2, 0, 0, 0, 99, 0), (13, 1, 3, .iaload, 0, 0, 0, 99, 0), (14, 3, 4, .invokestatic 124, 0, 0, 10, 3, 92), (17, 1, 0, .istore_n 1, 0, 0, 0, 99, 0), (18, 3, 0, .iinc 2 1, 0, 0, 0, 99, 0), (21, 3, 2, .goto (-17), 0, 0, 0, 99, 0), (24, 1, 0, .iload_n 1, 0, 0, 0, 99, 0), (25, 1, 2, .ireturn, 0, 0, 0, 99, 0)]
def pgX5_isNext : List (Nat × Nat × z_En) := [(0, 1, 0, .aload_n 0, 0, 0, 0, 99, 0), (1, 3, 3, .getfield 46, 5, 5, 3, 1, 137), (4, 3, 2, .ifCond .eq 22, 0, 0, 0, 99, 0), (7, 1, 0, .aload_n 0, 0, 0, 0, 99, 0), (8, 3, 3, .getfield 38, 5, 2, 1, 1, 134), (11, 3, 3, .getfield 129, 0, 18, 1, 2, 10), (14, 1, 0, .iload_n 1, 0, 0, 0, 99, 0), (15, 1, 3, .iaload, 0, 0, 0, 99, 0), (16, 1, 0, .aload_n 0, 0, 0, 0, 99, 0), (17, 3, 3, .getfield 53, 5, 8, 0, 1, 140), (20, 1, 0, .iconst (-1), 0, 0, 0, 99, 0), (21, 1, 1, .ixor, 0, 0, 0, 99, 0), (22, 1, 1, .iand, 0, 0, 0, 99, 0), (23, 3, 2, .ifCond .ne 7, 0, 0, 0, 99, 0), (26, 1, 0, .iconst 1, 0, 0, 0, 99, 0), (27, 3, 2, .goto 4, 0, 0, 0, 99, 0), (30, 1, 0, .iconst 0, 0, 0, 0, 99, 0), (31, 1, 0, .istore_n 2, 0, 0, 0, 99, 0), (32, 1, 0, .iload_n 2, 0, 0, 0, 99, 0), (33, 3, 2, .ifCond .eq 18, 0, 0, 0, 99, 0), (36, 1, 0, .aload_n 0, 0, 0, 0, 99, 0), (37, 3, 3, .getfield 53, 5, 8, 0, 1, 140), (40, 1, 0, .iload_n 1, 0, 0, 0, 99, 0), (41, 1, 1, .ishr, 0, 0, 0, 99, 0), (42, 1, 0, .iconst 1, 0, 0, 0, 99, 0), (43, 1, 1, .iand, 0, 0, 0, 99, 0), (44, 3, 2, .ifCond .ne 7, 0, 0, 0, 99, 0), (47, 1, 0, .iconst 1, 0, 0, 0, 99, 0), (48, 3, 2, .goto 4, 0, 0, 0, 99, 0), (51, 1, 0, .iconst 0, 0, 0, 0, 99, 0), (52, 1, 2, .ireturn, 0, 0, 3, 99, 0)]
def pgX5_earliest : List (Nat × Nat × z_En) := [(0, 1, 0, .aload_n 0, 0, 0, 0, 99, 0), (1, 3, 3, .getfield 38, 5, 2, 1, 1, 134), (4, 3, 3, .getfield 104, 0, 12, 1, 1, 229), (7, 1, 0, .iload_n 1, 0, 0, 0, 99, 0), (8, 1, 3, .iaload, 0, 0, 0, 99, 0), (9, 1, 0, .istore_n 2, 0, 0, 0, 99, 0), (10, 1, 0, .aload_n 0, 0, 0, 0, 99, 0), (11, 3, 3, .getfield 38, 5, 2, 1, 1, 134), (14, 3, 3, .getfield 68, 0, 13, 1, 1, 234), (17, 1, 0, .iload_n 1, 0, 0, 0, 99, 0), (18, 1, 3, .iaload, 0, 0, 0, 99, 0), (19, 1, 0, .istore_n 3, 0, 0, 0, 99, 0), (20, 1, 0, .aload_n 0, 0, 0, 0, 99, 0), (21, 3, 3, .getfield 42, 5, 4, 0, 1, 136), (24, 1, 0, .aload_n 0, 0, 0, 0, 99, 0), (25, 3, 3, .getfield 32, 5, 15, 1, 1, 147), (28, 1, 0, .iload_n 2, 0, 0, 0, 99, 0), (29, 1, 3, .iaload, 0, 0, 0, 99, 0), (30, 3, 4, .invokestatic 124, 0, 0, 10, 3, 92), (33, 1, 0, .aload_n 0, 0, 0, 0, 99, 0), (34, 3, 3, .getfield 35, 5, 16, 1, 1, 148), (37, 1, 0, .aload_n 0, 0, 0, 0, 99, 0), (38, 1, 0, .iload_n 3, 0, 0, 0, 99, 0), (39, 3, 4, .invokevirtual 71, 74, 2, 0, 3, 101), (42, 1, 3, .iaload, 0, 0, 0, 99, 0), (43, 3, 4, .invokestatic 124, 0, 0, 10, 3, 92), (46, 2, 0, .istore 4, 0, 0, 0, 99, 0), (48, 2, 0, .iload 4, 0, 0, 0, 99, 0), (50, 1, 0, .aload_n 0, 0, 0, 0, 99, 0), (51, 3, 3, .getfield 38, 5, 2, 1, 1, 134), (54, 3, 3, .getfield 132, 0, 8, 1, 1, 220), (57, 1, 0, .iload_n 2, 0, 0, 0, 99, 0), (58, 1, 3, .iaload, 0, 0, 0, 99, 0), (59, 1, 0, .aload_n 0, 0, 0, 0, 99, 0), (60, 3, 3, .getfield 38, 5, 2, 1, 1, 134), (63, 3, 3, .getfield 134, 0, 5, 1, 1, 214), (66, 1, 0, .iload_n 3, 0, 0, 0, 99, 0), (67, 1, 3, .iaload, 0, 0, 0, 99, 0), (68, 3, 4, .invokestatic 124, 0, 0, 10, 3, 92), (71, 3, 4, .invokestatic 124, 0, 0, 10, 3, 92), (74, 2, 0, .istore 4, 0, 0, 0, 99, 0), (76, 1, 0, .aload_n 0, 0, 0, 0, 99, 0), (77, 3, 3, .getfield 38, 5, 2, 1, 1, 134), (80, 1, 0, .iload_n 1, 0, 0, 0, 99, 0), (81, 3, 4, .invokevirtual 137, 17, 2, 0, 3, 105), (84, 2, 0, .istore 5, 0, 0, 0, 99, 0), (86, 1, 0, .iconst 0, 0, 0, 0, 99, 0), (87, 2, 0, .istore 6, 0, 0, 0, 99, 0), (89, 2, 0, .iload 6, 0, 0, 0, 99, 0), (91, 1, 0, .aload_n 0, 0, 0, 0, 99, 0), (92, 3, 3, .getfield 38, 5, 2, 1, 1, 134), (95, 3, 3, .getfield 140, 0, 3, 0, 1, 204), (98, 3, 2, .if_icmp .ge 95, 0, 0, 0, 99, 0), (101, 1, 0, .aload_n 0, 0, 0, 0, 99, 0), (102, 3, 3, .getfield 29, 5, 14, 1, 1, 146), (105, 2, 0, .iload 6, 0, 0, 0, 99, 0), (107, 1, 3, .iaload, 0, 0, 0, 99, 0), (108, 2, 0, .bipush (-9), 0, 0, 0, 99, 0), (110, 3, 2, .if_icmp .eq 34, 0, 0, 0, 99, 0), (113, 1, 0, .aload_n 0, 0, 0, 0, 99, 0), (114, 3, 3, .getfield 38, 5, 2, 1, 1, 134), (117, 3, 3, .getfield 143, 0, 17, 1, 2, 7), (120, 1, 0, .iload_n 1, 0, 0, 0, 99, 0), (121, 1, 3, .iaload, 0, 0, 0, 99, 0), (122, 2, 0, .iload 6, 0, 0, 0, 99, 0), (124, 1, 1, .ishr, 0, 0, 0, 99, 0), (125, 1, 0, .iconst 1, 0, 0, 0, 99, 0), (126, 1, 1, .iand, 0, 0, 0, 99, 0), (127, 3, 2, .ifCond .eq 17, 0, 0, 0, 99, 0), (130, 2, 0, .iload 5, 0, 0, 0, 99, 0), (132, 1, 0, .aload_n 0, 0, 0, 0, 99, 0), (133, 3, 3, .getfield 29, 5, 14, 1, 1, 146), (136, 2, 0, .iload 6, 0, 0, 0, 99, 0), (138, 1, 3, .iaload, 0, 0, 0, 99, 0), (139, 3, 4, .invokestatic 146, 0, 0, 11, 3, 106), (142, 2, 0, .istore 5, 0, 0, 0, 99, 0), (144, 1, 0, .aload_n 0, 0, 0, 0, 99, 0), (145, 3, 3, .getfield 29, 5, 14, 1, 1, 146), (148, 2, 0, .iload 6, 0, 0, 0, 99, 0), (150, 1, 3, .iaload, 0, 0, 0, 99, 0), (151, 2, 0, .bipush (-9), 0, 0, 0, 99, 0), (153, 3, 2, .if_icmp .eq 34, 0, 0, 0, 99, 0), (156, 1, 0, .aload_n 0, 0, 0, 0, 99, 0), (157, 3, 3, .getfield 38, 5, 2, 1, 1, 134), (160, 3, 3, .getfield 143, 0, 17, 1, 2, 7), (163, 2, 0, .iload 6, 0, 0, 0, 99, 0), (165, 1, 3, .iaload, 0, 0, 0, 99, 0), (166, 1, 0, .iload_n 1, 0, 0, 0, 99, 0), (167, 1, 1, .ishr, 0, 0, 0, 99, 0), (168, 1, 0, .iconst 1, 0, 0, 0, 99, 0), (169, 1, 1, .iand, 0, 0, 0, 99, 0), (170, 3, 2, .ifCond .eq 17, 0, 0, 0, 99, 0), (173, 2, 0, .iload 4, 0, 0, 0, 99, 0), (175, 1, 0, .aload_n 0, 0, 0, 0, 99, 0), (176, 3, 3, .getfield 29, 5, 14, 1, 1, 146), (179, 2, 0, .iload 6, 0, 0, 0, 99, 0), (181, 1, 3, .iaload, 0, 0, 0, 99, 0), (182, 3, 4, .invokestatic 124, 0, 0, 10, 3, 92), (185, 2, 0, .istore 4, 0, 0, 0, 99, 0), (187, 3, 0, .iinc 6 1, 0, 0, 0, 99, 0), (190, 3, 2, .goto (-101), 0, 0, 0, 99, 0), (193, 2, 0, .iload 4, 0, 0, 0, 99, 0), (195, 2, 0, .istore 6, 0, 0, 0, 99, 0), (197, 2, 0, .iload 6, 0, 0, 0, 99, 0), (199, 2, 0, .iload 5, 0, 0, 0, 99, 0), (201, 3, 2, .if_icmp .gt 27, 0, 0, 0, 99, 0), (204, 1, 0, .aload_n 0, 0, 0, 0, 99, 0), (205, 3, 3, .getfield 38, 5, 2, 1, 1, 134), (208, 1, 0, .iload_n 1, 0, 0, 0, 99, 0), (209, 2, 0, .iload 6, 0, 0, 0, 99, 0), (211, 3, 4, .invokevirtual 149, 15, 3, 0, 3, 107), (214, 2, 0, .bipush (-9), 0, 0, 0, 99, 0), (216, 3, 2, .if_icmp .ne 6, 0, 0, 0, 99, 0), (219, 2, 0, .iload 6, 0, 0, 0, 99, 0), (221, 1, 2, .ireturn, 0, 0, 0, 99, 0), (222, 3, 0, .iinc 6 1, 0, 0, 0, 99, 0), (225, 3, 2, .goto (-28), 0, 0, 0, 99, 0), (228, 2, 0, .bipush (-9), 0, 0, 0, 99, 0), (230, 1, 2, .ireturn, 0, 0, 0, 99, 0)]
def pgX5_firstCopy : List (Nat × Nat × z_En) := [(0, 1, 0, .iload_n 1, 0, 0, 0, 99, 0), (1, 1, 0, .iconst 2, 0, 0, 0, 99, 0), (2, 1, 1, .imul, 0, 0, 0, 99, 0), (3, 1, 0, .istore_n 2, 0, 0, 0, 99, 0), (4, 1, 0, .aload_n 0, 0, 0, 0, 99, 0), (5, 3, 3, .getfield 38, 5, 2, 1, 1, 134), (8, 3, 3, .getfield 152, 0, 4, 1, 1, 208), (11, 1, 0, .iload_n 1, 0, 0, 0, 99, 0), (12, 1, 3, .iaload, 0, 0, 0, 99, 0), (13, 1, 0, .iconst 1, 0, 0, 0, 99, 0), (14, 3, 2, .if_icmp .le 26, 0, 0, 0, 99, 0), (17, 1, 0, .aload_n 0, 0, 0, 0, 99, 0), (18, 3, 3, .getfield 35, 5, 16, 1, 1, 148), (21, 1, 0, .iload_n 2, 0, 0, 0, 99, 0), (22, 1, 0, .iconst 1, 0, 0, 0, 99, 0), (23, 1, 1, .iadd, 0, 0, 0, 99, 0), (24, 1, 3, .iaload, 0, 0, 0, 99, 0), (25, 1, 0, .aload_n 0, 0, 0, 0, 99, 0), (26, 3, 3, .getfield 35, 5, 16, 1, 1, 148), (29, 1, 0, .iload_n 2, 0, 0, 0, 99, 0), (30, 1, 3, .iaload, 0, 0, 0, 99, 0), (31, 3, 2, .if_icmp .ge 9, 0, 0, 0, 99, 0), (34, 1, 0, .iload_n 2, 0, 0, 0, 99, 0), (35, 1, 0, .iconst 1, 0, 0, 0, 99, 0), (36, 1, 1, .iadd, 0, 0, 0, 99, 0), (37, 3, 2, .goto 4, 0, 0, 0, 99, 0), (40, 1, 0, .iload_n 2, 0, 0, 0, 99, 0), (41, 1, 2, .ireturn, 0, 0, 0, 99, 0)]
def pgX5_place : List (Nat × Nat × z_En) := [(0, 1, 0, .aload_n 0, 0, 0, 0, 99, 0), (1, 3, 3, .getfield 29, 5, 14, 1, 1, 146), (4, 1, 0, .iload_n 1, 0, 0, 0, 99, 0), (5, 1, 0, .iload_n 2, 0, 0, 0, 99, 0), (6, 1, 3, .iastore, 0, 0, 0, 99, 0), (7, 1, 0, .aload_n 0, 0, 0, 0, 99, 0), (8, 1, 0, .dup, 0, 0, 0, 99, 0), (9, 3, 3, .getfield 53, 5, 8, 0, 1, 140), (12, 1, 0, .iconst 1, 0, 0, 0, 99, 0), (13, 1, 0, .iload_n 1, 0, 0, 0, 99, 0), (14, 1, 1, .ishl, 0, 0, 0, 99, 0), (15, 1, 1, .ior, 0, 0, 0, 99, 0), (16, 3, 3, .putfield 53, 5, 8, 0, 1, 140), (19, 1, 0, .aload_n 0, 0, 0, 0, 99, 0), (20, 3, 3, .getfield 32, 5, 15, 1, 1, 147), (23, 1, 0, .aload_n 0, 0, 0, 0, 99, 0), (24, 3, 3, .getfield 38, 5, 2, 1, 1, 134), (27, 3, 3, .getfield 104, 0, 12, 1, 1, 229), (30, 1, 0, .iload_n 1, 0, 0, 0, 99, 0), (31, 1, 3, .iaload, 0, 0, 0, 99, 0), (32, 1, 0, .iload_n 2, 0, 0, 0, 99, 0), (33, 1, 0, .aload_n 0, 0, 0, 0, 99, 0), (34, 3, 3, .getfield 38, 5, 2, 1, 1, 134), (37, 3, 3, .getfield 121, 0, 14, 1, 2, 1), (40, 1, 0, .iload_n 1, 0, 0, 0, 99, 0), (41, 1, 3, .iaload, 0, 0, 0, 99, 0), (42, 1, 1, .iadd, 0, 0, 0, 99, 0), (43, 1, 3, .iastore, 0, 0, 0, 99, 0), (44, 1, 0, .aload_n 0, 0, 0, 0, 99, 0), (45, 3, 3, .getfield 35, 5, 16, 1, 1, 148), (48, 1, 0, .iload_n 3, 0, 0, 0, 99, 0), (49, 1, 0, .iload_n 2, 0, 0, 0, 99, 0), (50, 1, 0, .aload_n 0, 0, 0, 0, 99, 0), (51, 3, 3, .getfield 38, 5, 2, 1, 1, 134), (54, 3, 3, .getfield 121, 0, 14, 1, 2, 1), (57, 1, 0, .iload_n 1, 0, 0, 0, 99, 0), (58, 1, 3, .iaload, 0, 0, 0, 99, 0), (59, 1, 1, .iadd, 0, 0, 0, 99, 0), (60, 1, 3, .iastore, 0, 0, 0, 99, 0), (61, 1, 0, .aload_n 0, 0, 0, 0, 99, 0), (62, 1, 0, .iload_n 1, 0, 0, 0, 99, 0), (63, 1, 0, .aload_n 0, 0, 0, 0, 99, 0), (64, 3, 3, .getfield 38, 5, 2, 1, 1, 134), (67, 1, 0, .iload_n 1, 0, 0, 0, 99, 0), (68, 1, 0, .iload_n 2, 0, 0, 0, 99, 0), (69, 3, 4, .invokevirtual 117, 14, 3, 0, 3, 108), (72, 1, 1, .ineg, 0, 0, 0, 99, 0), (73, 3, 4, .invokevirtual 64, 77, 3, 0, 3, 73), (76, 1, 2, .return_, 0, 0, 0, 99, 0)]
def pgX5_takeBack : List (Nat × Nat × z_En) := [(0, 1, 0, .aload_n 0, 0, 0, 0, 99, 0), (1, 3, 3, .getfield 29, 5, 14, 1, 1, 146), (4, 1, 0, .iload_n 1, 0, 0, 0, 99, 0), (5, 2, 0, .bipush (-9), 0, 0, 0, 99, 0), (7, 1, 3, .iastore, 0, 0, 0, 99, 0), (8, 1, 0, .aload_n 0, 0, 0, 0, 99, 0), (9, 1, 0, .dup, 0, 0, 0, 99, 0), (10, 3, 3, .getfield 53, 5, 8, 0, 1, 140), (13, 1, 0, .iconst 1, 0, 0, 0, 99, 0), (14, 1, 0, .iload_n 1, 0, 0, 0, 99, 0), (15, 1, 1, .ishl, 0, 0, 0, 99, 0), (16, 1, 0, .iconst (-1), 0, 0, 0, 99, 0), (17, 1, 1, .ixor, 0, 0, 0, 99, 0), (18, 1, 1, .iand, 0, 0, 0, 99, 0), (19, 3, 3, .putfield 53, 5, 8, 0, 1, 140), (22, 1, 0, .aload_n 0, 0, 0, 0, 99, 0), (23, 1, 0, .iload_n 1, 0, 0, 0, 99, 0), (24, 1, 0, .aload_n 0, 0, 0, 0, 99, 0), (25, 3, 3, .getfield 38, 5, 2, 1, 1, 134), (28, 1, 0, .iload_n 1, 0, 0, 0, 99, 0), (29, 1, 0, .iload_n 2, 0, 0, 0, 99, 0), (30, 3, 4, .invokevirtual 117, 14, 3, 0, 3, 108), (33, 3, 4, .invokevirtual 64, 77, 3, 0, 3, 73), (36, 1, 2, .return_, 0, 0, 0, 99, 0)]
def pgX5_miss : List (Nat × Nat × z_En) := [(0, 1, 0, .aload_n 0, 0, 0, 0, 99, 0), (1, 1, 0, .dup, 0, 0, 0, 99, 0), (2, 3, 3, .getfield 50, 5, 7, 0, 1, 139), (5, 1, 0, .iload_n 2, 0, 0, 0, 99, 0), (6, 1, 1, .iadd, 0, 0, 0, 99, 0), (7, 3, 3, .putfield 50, 5, 7, 0, 1, 139), (10, 1, 0, .aload_n 0, 0, 0, 0, 99, 0), (11, 3, 3, .getfield 23, 5, 12, 1, 1, 144), (14, 1, 0, .aload_n 0, 0, 0, 0, 99, 0), (15, 3, 3, .getfield 38, 5, 2, 1, 1, 134), (18, 3, 3, .getfield 104, 0, 12, 1, 1, 229), (21, 1, 0, .iload_n 1, 0, 0, 0, 99, 0), (22, 1, 3, .iaload, 0, 0, 0, 99, 0), (23, 1, 0, .dup2, 0, 0, 0, 99, 0), (24, 1, 3, .iaload, 0, 0, 0, 99, 0), (25, 1, 0, .iload_n 2, 0, 0, 0, 99, 0), (26, 1, 1, .iadd, 0, 0, 0, 99, 0), (27, 1, 3, .iastore, 0, 0, 0, 99, 0), (28, 1, 2, .return_, 0, 0, 0, 99, 0)]
def pgX6_init : List (Nat × Nat × z_En) := [(0, 1, 0, .aload_n 0, 0, 0, 0, 99, 0), (1, 3, 4, .invokespecial 3, 0, 0, 13, 1, 24), (4, 1, 0, .aload_n 0, 0, 0, 0, 99, 0), (5, 1, 0, .iload_n 1, 0, 0, 0, 99, 0), (6, 1, 0, .iload_n 2, 0, 0, 0, 99, 0), (7, 4, 3, .multianewarray 9 2, 15, 0, 0, 1, 25), (11, 3, 3, .putfield 11, 6, 0, 1, 1, 27), (14, 1, 0, .aload_n 0, 0, 0, 0, 99, 0), (15, 1, 0, .iload_n 1, 0, 0, 0, 99, 0), (16, 2, 3, .newarray .int, 10, 0, 0, 99, 0), (18, 3, 3, .putfield 16, 6, 1, 1, 1, 29), (21, 1, 0, .iconst 0, 0, 0, 0, 99, 0), (22, 1, 0, .istore_n 3, 0, 0, 0, 99, 0), (23, 1, 0, .iload_n 3, 0, 0, 0, 99, 0), (24, 1, 0, .iload_n 1, 0, 0, 0, 99, 0), (25, 3, 2, .if_icmp .ge 16, 0, 0, 0, 99, 0), (28, 1, 0, .aload_n 0, 0, 0, 0, 99, 0), (29, 3, 3, .getfield 16, 6, 1, 1, 1, 29), (32, 1, 0, .iload_n 3, 0, 0, 0, 99, 0), (33, 1, 0, .iconst (-1), 0, 0, 0, 99, 0), (34, 1, 3, .iastore, 0, 0, 0, 99, 0), (35, 3, 0, .iinc 3 1, 0, 0, 0, 99, 0), (38, 3, 2, .goto (-15), 0, 0, 0, 99, 0), (41, 1, 2, .return_, 0, 0, 0, 99, 0)]
def pgX6_has : List (Nat × Nat × z_En) := [(0, 1, 0, .iload_n 1, 0, 0, 0, 99, 0), (1, 3, 2, .ifCond .lt 16, 0, 0, 0, 99, 0), (4, 1, 0, .iload_n 1, 0, 0, 0, 99, 0), (5, 1, 0, .aload_n 0, 0, 0, 0, 99, 0), (6, 3, 3, .getfield 16, 6, 1, 1, 1, 29), (9, 1, 3, .arraylength, 10, 0, 0, 99, 0), (10, 3, 2, .if_icmp .ge 7, 0, 0, 0, 99, 0), (13, 1, 0, .iconst 1, 0, 0, 0, 99, 0), (14, 3, 2, .goto 4, 0, 0, 0, 99, 0), (17, 1, 0, .iconst 0, 0, 0, 0, 99, 0), (18, 1, 2, .ireturn, 0, 0, 3, 99, 0)]
def pgX6_isMissing : List (Nat × Nat × z_En) := [(0, 1, 0, .aload_n 0, 0, 0, 0, 99, 0), (1, 3, 3, .getfield 16, 6, 1, 1, 1, 29), (4, 1, 0, .iload_n 1, 0, 0, 0, 99, 0), (5, 1, 3, .iaload, 0, 0, 0, 99, 0), (6, 1, 0, .iconst (-1), 0, 0, 0, 99, 0), (7, 3, 2, .if_icmp .ne 7, 0, 0, 0, 99, 0), (10, 1, 0, .iconst 1, 0, 0, 0, 99, 0), (11, 3, 2, .goto 4, 0, 0, 0, 99, 0), (14, 1, 0, .iconst 0, 0, 0, 0, 99, 0), (15, 1, 2, .ireturn, 0, 0, 3, 99, 0)]
def pgX6_lackAt : List (Nat × Nat × z_En) := [(0, 1, 0, .aload_n 0, 0, 0, 0, 99, 0), (1, 1, 0, .iload_n 1, 0, 0, 0, 99, 0), (2, 3, 4, .invokevirtual 20, 80, 2, 0, 3, 191), (5, 3, 2, .ifCond .eq 5, 0, 0, 0, 99, 0), (8, 1, 0, .iconst 1, 0, 0, 0, 99, 0), (9, 1, 2, .ireturn, 0, 0, 0, 99, 0), (10, 1, 0, .iload_n 2, 0, 0, 0, 99, 0), (11, 3, 2, .ifCond .lt 13, 0, 0, 0, 99, 0), (14, 1, 0, .iload_n 2, 0, 0, 0, 99, 0), (15, 1, 0, .aload_n 0, 0, 0, 0, 99, 0), (16, 3, 3, .getfield 16, 6, 1, 1, 1, 29), (19, 1, 0, .iload_n 1, 0, 0, 0, 99, 0), (20, 1, 3, .iaload, 0, 0, 0, 99, 0), (21, 3, 2, .if_icmp .lt 7, 0, 0, 0, 99, 0), (24, 1, 0, .iconst 2, 0, 0, 0, 99, 0), (25, 3, 2, .goto 4, 0, 0, 0, 99, 0), (28, 1, 0, .iconst 0, 0, 0, 0, 99, 0), (29, 1, 2, .ireturn, 0, 0, 0, 99, 0)]
def pgX6_spans : List (Nat × Nat × z_En) := [(0, 1, 0, .iload_n 2, 0, 0, 0, 99, 0), (1, 3, 2, .ifCond .lt 33, 0, 0, 0, 99, 0), (4, 1, 0, .iload_n 3, 0, 0, 0, 99, 0), (5, 3, 2, .ifCond .lt 29, 0, 0, 0, 99, 0), (8, 1, 0, .iload_n 3, 0, 0, 0, 99, 0), (9, 1, 0, .aload_n 0, 0, 0, 0, 99, 0), (10, 3, 3, .getfield 16, 6, 1, 1, 1, 30), (13, 1, 0, .iload_n 1, 0, 0, 0, 99, 0), (14, 1, 3, .iaload, 0, 0, 0, 99, 0), (15, 3, 2, .if_icmp .gt 19, 0, 0, 0, 99, 0), (18, 1, 0, .iload_n 2, 0, 0, 0, 99, 0), (19, 1, 0, .aload_n 0, 0, 0, 0, 99, 0), (20, 3, 3, .getfield 16, 6, 1, 1, 1, 30), (23, 1, 0, .iload_n 1, 0, 0, 0, 99, 0), (24, 1, 3, .iaload, 0, 0, 0, 99, 0), (25, 1, 0, .iload_n 3, 0, 0, 0, 99, 0), (26, 1, 1, .isub, 0, 0, 0, 99, 0), (27, 3, 2, .if_icmp .gt 7, 0, 0, 0, 99, 0), (30, 1, 0, .iconst 1, 0, 0, 0, 99, 0), (31, 3, 2, .goto 4, 0, 0, 0, 99, 0), (34, 1, 0, .iconst 0, 0, 0, 0, 99, 0), (35, 1, 2, .ireturn, 0, 0, 3, 99, 0)]
def pgX6_begin : List (Nat × Nat × z_En) := [(0, 1, 0, .aload_n 0, 0, 0, 0, 99, 0), (1, 3, 3, .getfield 16, 6, 1, 1, 1, 29), (4, 1, 0, .iload_n 1, 0, 0, 0, 99, 0), (5, 1, 0, .iload_n 2, 0, 0, 0, 99, 0), (6, 1, 3, .iastore, 0, 0, 0, 99, 0), (7, 1, 0, .iconst 0, 0, 0, 0, 99, 0), (8, 2, 0, .istore 4, 0, 0, 0, 99, 0), (10, 2, 0, .iload 4, 0, 0, 0, 99, 0), (12, 1, 0, .iload_n 2, 0, 0, 0, 99, 0), (13, 3, 2, .if_icmp .ge 19, 0, 0, 0, 99, 0), (16, 1, 0, .aload_n 0, 0, 0, 0, 99, 0), (17, 3, 3, .getfield 11, 6, 0, 1, 1, 27), (20, 1, 0, .iload_n 1, 0, 0, 0, 99, 0), (21, 1, 3, .aaload, 15, 0, 0, 99, 0), (22, 2, 0, .iload 4, 0, 0, 0, 99, 0), (24, 1, 0, .iload_n 3, 0, 0, 0, 99, 0), (25, 1, 3, .iastore, 0, 0, 0, 99, 0), (26, 3, 0, .iinc 4 1, 0, 0, 0, 99, 0), (29, 3, 2, .goto (-19), 0, 0, 0, 99, 0), (32, 1, 2, .return_, 0, 0, 0, 99, 0)]
def pgX6_there : List (Nat × Nat × z_En) := [(0, 1, 0, .iconst 0, 0, 0, 0, 99, 0), (1, 1, 0, .istore_n 1, 0, 0, 0, 99, 0), (2, 1, 0, .iconst 0, 0, 0, 0, 99, 0), (3, 1, 0, .istore_n 2, 0, 0, 0, 99, 0), (4, 1, 0, .iload_n 2, 0, 0, 0, 99, 0), (5, 1, 0, .aload_n 0, 0, 0, 0, 99, 0), (6, 3, 3, .getfield 16, 6, 1, 1, 1, 30), (9, 1, 3, .arraylength, 10, 0, 0, 99, 0), (10, 3, 2, .if_icmp .ge 25, 0, 0, 0, 99, 0), (13, 1, 0, .iload_n 1, 0, 0, 0, 99, 0), (14, 1, 0, .aload_n 0, 0, 0, 0, 99, 0), (15, 1, 0, .iload_n 2, 0, 0, 0, 99, 0), (16, 3, 4, .invokevirtual 20, 80, 2, 0, 2, 124), (19, 3, 2, .ifCond .eq 7, 0, 0, 0, 99, 0), (22, 1, 0, .iconst 0, 0, 0, 0, 99, 0), (23, 3, 2, .goto 4, 0, 0, 0, 99, 0), (26, 1, 0, .iconst 1, 0, 0, 0, 99, 0), (27, 1, 1, .iadd, 0, 0, 0, 99, 0), (28, 1, 0, .istore_n 1, 0, 0, 0, 99, 0), (29, 3, 0, .iinc 2 1, 0, 0, 0, 99, 0), (32, 3, 2, .goto (-28), 0, 0, 0, 99, 0), (35, 1, 0, .iload_n 1, 0, 0, 0, 99, 0), (36, 1, 2, .ireturn, 0, 0, 0, 99, 0)]
def pgX6_digestOn : List (Nat × Nat × z_En) := [(0, 1, 0, .lload_n 1, 0, 0, 0, 99, 0), (1, 1, 0, .lstore_n 3, 0, 0, 0, 99, 0), (2, 1, 0, .iconst 0, 0, 0, 0, 99, 0), (3, 2, 0, .istore 5, 0, 0, 0, 99, 0), (5, 2, 0, .iload 5, 0, 0, 0, 99, 0), (7, 1, 0, .aload_n 0, 0, 0, 0, 99, 0), (8, 3, 3, .getfield 16, 6, 1, 1, 1, 30), (11, 1, 3, .arraylength, 10, 0, 0, 99, 0), (12, 3, 2, .if_icmp .ge 63, 0, 0, 0, 99, 0), (15, 3, 0, .ldc2_w 24, 31, 0, 0, 4, 158), (18, 1, 0, .lload_n 3, 0, 0, 0, 99, 0), (19, 1, 1, .lmul, 0, 0, 0, 99, 0), (20, 1, 0, .aload_n 0, 0, 0, 0, 99, 0), (21, 3, 3, .getfield 16, 6, 1, 1, 1, 30), (24, 2, 0, .iload 5, 0, 0, 0, 99, 0), (26, 1, 3, .iaload, 0, 0, 0, 99, 0), (27, 1, 1, .i2l, 0, 0, 0, 99, 0), (28, 1, 1, .ladd, 0, 0, 0, 99, 0), (29, 1, 0, .lstore_n 3, 0, 0, 0, 99, 0), (30, 1, 0, .iconst 0, 0, 0, 0, 99, 0), (31, 2, 0, .istore 6, 0, 0, 0, 99, 0), (33, 2, 0, .iload 6, 0, 0, 0, 99, 0), (35, 1, 0, .aload_n 0, 0, 0, 0, 99, 0), (36, 3, 3, .getfield 16, 6, 1, 1, 1, 30), (39, 2, 0, .iload 5, 0, 0, 0, 99, 0), (41, 1, 3, .iaload, 0, 0, 0, 99, 0), (42, 3, 2, .if_icmp .ge 27, 0, 0, 0, 99, 0), (45, 3, 0, .ldc2_w 24, 31, 0, 0, 4, 158), (48, 1, 0, .lload_n 3, 0, 0, 0, 99, 0), (49, 1, 1, .lmul, 0, 0, 0, 99, 0), (50, 1, 0, .aload_n 0, 0, 0, 0, 99, 0), (51, 3, 3, .getfield 11, 6, 0, 1, 1, 28), (54, 2, 0, .iload 5, 0, 0, 0, 99, 0), (56, 1, 3, .aaload, 15, 0, 0, 99, 0), (57, 2, 0, .iload 6, 0, 0, 0, 99, 0), (59, 1, 3, .iaload, 0, 0, 0, 99, 0), (60, 1, 1, .i2l, 0, 0, 0, 99, 0), (61, 1, 1, .ladd, 0, 0, 0, 99, 0), (62, 1, 0, .lstore_n 3, 0, 0, 0, 99, 0), (63, 3, 0, .iinc 6 1, 0, 0, 0, 99, 0), (66, 3, 2, .goto (-33), 0, 0, 0, 99, 0), (69, 3, 0, .iinc 5 1, 0, 0, 0, 99, 0), (72, 3, 2, .goto (-67), 0, 0, 0, 99, 0), (75, 1, 0, .lload_n 3, 0, 0, 0, 99, 0), (76, 1, 2, .lreturn, 0, 0, 0, 99, 0)]
def pgX7_init : List (Nat × Nat × z_En) := [(0, 1, 0, .aload_n 0, 0, 0, 0, 99, 0), (1, 3, 4, .invokespecial 1, 0, 0, 13, 1, 16), (4, 1, 0, .aload_n 0, 0, 0, 0, 99, 0), (5, 3, 3, .new 7, 6, 0, 0, 1, 19), (8, 1, 0, .dup, 0, 0, 0, 99, 0), (9, 2, 0, .bipush 6, 0, 0, 0, 99, 0), (11, 2, 0, .bipush 48, 0, 0, 0, 99, 0), (13, 3, 4, .invokespecial 11, 78, 3, 2, 1, 21), (16, 3, 3, .putfield 14, 7, 0, 1, 2, 53), (19, 1, 0, .aload_n 0, 0, 0, 0, 99, 0), (20, 3, 3, .new 7, 6, 0, 0, 1, 19), (23, 1, 0, .dup, 0, 0, 0, 99, 0), (24, 1, 0, .iconst 4, 0, 0, 0, 99, 0), (25, 2, 0, .bipush 120, 0, 0, 0, 99, 0), (27, 3, 4, .invokespecial 11, 78, 3, 2, 1, 21), (30, 3, 3, .putfield 18, 7, 1, 1, 2, 54), (33, 1, 0, .aload_n 0, 0, 0, 0, 99, 0), (34, 3, 3, .new 21, 1, 0, 0, 1, 37), (37, 1, 0, .dup, 0, 0, 0, 99, 0), (38, 3, 4, .invokespecial 23, 18, 1, 3, 1, 39), (41, 3, 3, .putfield 24, 7, 2, 1, 2, 55), (44, 1, 0, .aload_n 0, 0, 0, 0, 99, 0), (45, 3, 3, .new 28, 2, 0, 0, 1, 65), (48, 1, 0, .dup, 0, 0, 0, 99, 0), (49, 3, 4, .invokespecial 30, 31, 1, 2, 1, 67), (52, 3, 3, .putfield 31, 7, 3, 1, 2, 56), (55, 1, 0, .aload_n 0, 0, 0, 0, 99, 0), (56, 3, 3, .new 28, 2, 0, 0, 1, 65), (59, 1, 0, .dup, 0, 0, 0, 99, 0), (60, 3, 4, .invokespecial 30, 31, 1, 2, 1, 67), (63, 3, 3, .putfield 35, 7, 4, 1, 2, 57), (66, 1, 0, .aload_n 0, 0, 0, 0, 99, 0), (67, 2, 0, .bipush 6, 0, 0, 0, 99, 0), (69, 3, 3, .anewarray 38, 14, 0, 0, 1, 77), (72, 3, 3, .putfield 40, 7, 5, 1, 2, 58), (75, 1, 0, .iconst 0, 0, 0, 0, 99, 0), (76, 1, 0, .istore_n 1, 0, 0, 0, 99, 0), (77, 1, 0, .iload_n 1, 0, 0, 0, 99, 0), (78, 2, 0, .bipush 6, 0, 0, 0, 99, 0), (80, 3, 2, .if_icmp .ge 22, 0, 0, 0, 99, 0), (83, 1, 0, .aload_n 0, 0, 0, 0, 99, 0), (84, 3, 3, .getfield 40, 7, 5, 1, 2, 58), (87, 1, 0, .iload_n 1, 0, 0, 0, 99, 0), (88, 3, 3, .new 38, 4, 0, 0, 1, 77), (91, 1, 0, .dup, 0, 0, 0, 99, 0), (92, 3, 4, .invokespecial 44, 57, 1, 3, 1, 80), (95, 1, 3, .aastore, 0, 0, 0, 99, 0), (96, 3, 0, .iinc 1 1, 0, 0, 0, 99, 0), (99, 3, 2, .goto (-22), 0, 0, 0, 99, 0), (102, 1, 0, .aload_n 0, 0, 0, 0, 99, 0), (103, 3, 3, .new 38, 4, 0, 0, 1, 77), (106, 1, 0, .dup, 0, 0, 0, 99, 0), (107, 3, 4, .invokespecial 44, 57, 1, 3, 1, 80), (110, 3, 3, .putfield 45, 7, 6, 1, 2, 59), (113, 1, 0, .aload_n 0, 0, 0, 0, 99, 0), (114, 3, 3, .new 49, 3, 0, 0, 1, 95), (117, 1, 0, .dup, 0, 0, 0, 99, 0), (118, 3, 4, .invokespecial 51, 44, 1, 3, 1, 97), (121, 3, 3, .putfield 52, 7, 7, 1, 2, 60), (124, 1, 0, .aload_n 0, 0, 0, 0, 99, 0), (125, 3, 3, .new 56, 5, 0, 0, 1, 123), (128, 1, 0, .dup, 0, 0, 0, 99, 0), (129, 3, 4, .invokespecial 58, 63, 1, 3, 1, 125), (132, 3, 3, .putfield 59, 7, 8, 1, 2, 61), (135, 1, 0, .aload_n 0, 0, 0, 0, 99, 0), (136, 2, 0, .bipush 6, 0, 0, 0, 99, 0), (138, 2, 3, .newarray .int, 10, 0, 0, 99, 0), (140, 3, 3, .putfield 63, 7, 9, 1, 2, 62), (143, 1, 0, .aload_n 0, 0, 0, 0, 99, 0), (144, 3, 3, .new 67, 0, 0, 0, 1, 184), (147, 1, 0, .dup, 0, 0, 0, 99, 0), (148, 3, 4, .invokespecial 69, 0, 1, 3, 1, 186), (151, 3, 3, .putfield 70, 7, 10, 1, 2, 63), (154, 1, 0, .aload_n 0, 0, 0, 0, 99, 0), (155, 3, 3, .new 67, 0, 0, 0, 1, 184), (158, 1, 0, .dup, 0, 0, 0, 99, 0), (159, 3, 4, .invokespecial 69, 0, 1, 3, 1, 186), (162, 3, 3, .putfield 74, 7, 11, 1, 2, 64), (165, 1, 2, .return_, 0, 0, 0, 99, 0)]
def pgX7_row : List (Nat × Nat × z_En) := [(0, 1, 0, .aload_n 0, 0, 0, 0, 99, 0), (1, 3, 3, .getfield 14, 7, 0, 1, 2, 57), (4, 1, 0, .iload_n 1, 0, 0, 0, 99, 0), (5, 3, 4, .invokevirtual 77, 79, 2, 0, 2, 104), (8, 3, 2, .ifCond .eq 9, 0, 0, 0, 99, 0), (11, 1, 0, .iload_n 2, 0, 0, 0, 99, 0), (12, 2, 0, .bipush 48, 0, 0, 0, 99, 0), (14, 3, 2, .if_icmp .le 5, 0, 0, 0, 99, 0), (17, 1, 0, .iconst (-1), 0, 0, 0, 99, 0), (18, 1, 2, .ireturn, 0, 0, 0, 99, 0), (19, 1, 0, .iload_n 2, 0, 0, 0, 99, 0), (20, 3, 2, .ifCond .ge 9, 0, 0, 0, 99, 0), (23, 1, 0, .aload_n 0, 0, 0, 0, 99, 0), (24, 1, 0, .iconst 5, 0, 0, 0, 99, 0), (25, 3, 4, .invokevirtual 81, 126, 2, 0, 2, 108), (28, 1, 2, .ireturn, 0, 0, 0, 99, 0), (29, 1, 0, .aload_n 0, 0, 0, 0, 99, 0), (30, 3, 3, .getfield 14, 7, 0, 1, 2, 57), (33, 1, 0, .iload_n 1, 0, 0, 0, 99, 0), (34, 1, 0, .iload_n 2, 0, 0, 0, 99, 0), (35, 1, 0, .iconst 0, 0, 0, 0, 99, 0), (36, 3, 4, .invokevirtual 85, 83, 4, 0, 2, 112), (39, 1, 0, .iload_n 2, 0, 0, 0, 99, 0), (40, 1, 2, .ireturn, 0, 0, 0, 99, 0)]
def pgX7_lay : List (Nat × Nat × z_En) := [(0, 1, 0, .aload_n 0, 0, 0, 0, 99, 0), (1, 3, 3, .getfield 14, 7, 0, 1, 2, 57), (4, 1, 0, .iload_n 1, 0, 0, 0, 99, 0), (5, 3, 4, .invokevirtual 77, 79, 2, 0, 2, 104), (8, 3, 2, .ifCond .ne 5, 0, 0, 0, 99, 0), (11, 1, 0, .iconst (-1), 0, 0, 0, 99, 0), (12, 1, 2, .ireturn, 0, 0, 0, 99, 0), (13, 1, 0, .aload_n 0, 0, 0, 0, 99, 0), (14, 3, 3, .getfield 14, 7, 0, 1, 2, 57), (17, 1, 0, .iload_n 1, 0, 0, 0, 99, 0), (18, 1, 0, .iload_n 2, 0, 0, 0, 99, 0), (19, 3, 4, .invokevirtual 89, 81, 3, 0, 2, 120), (22, 2, 0, .istore 4, 0, 0, 0, 99, 0), (24, 2, 0, .iload 4, 0, 0, 0, 99, 0), (26, 3, 2, .ifCond .eq 10, 0, 0, 0, 99, 0), (29, 1, 0, .aload_n 0, 0, 0, 0, 99, 0), (30, 2, 0, .iload 4, 0, 0, 0, 99, 0), (32, 3, 4, .invokevirtual 81, 126, 2, 0, 2, 108), (35, 1, 2, .ireturn, 0, 0, 0, 99, 0), (36, 1, 0, .aload_n 0, 0, 0, 0, 99, 0), (37, 1, 0, .aload_n 0, 0, 0, 0, 99, 0), (38, 3, 3, .getfield 14, 7, 0, 1, 2, 57), (41, 3, 3, .getfield 93, 6, 0, 1, 1, 29), (44, 1, 0, .iload_n 1, 0, 0, 0, 99, 0), (45, 1, 3, .aaload, 15, 0, 0, 99, 0), (46, 1, 0, .iload_n 2, 0, 0, 0, 99, 0), (47, 1, 3, .iaload, 0, 0, 0, 99, 0), (48, 3, 3, .putfield 97, 7, 13, 0, 2, 70), (51, 1, 0, .aload_n 0, 0, 0, 0, 99, 0), (52, 3, 3, .getfield 14, 7, 0, 1, 2, 57), (55, 3, 3, .getfield 93, 6, 0, 1, 1, 29), (58, 1, 0, .iload_n 1, 0, 0, 0, 99, 0), (59, 1, 3, .aaload, 15, 0, 0, 99, 0), (60, 1, 0, .iload_n 2, 0, 0, 0, 99, 0), (61, 1, 0, .iload_n 3, 0, 0, 0, 99, 0), (62, 1, 3, .iastore, 0, 0, 0, 99, 0), (63, 1, 0, .iconst 1, 0, 0, 0, 99, 0), (64, 1, 2, .ireturn, 0, 0, 0, 99, 0)]
def pgX7_at : List (Nat × Nat × z_En) := [(0, 1, 0, .aload_n 0, 0, 0, 0, 99, 0), (1, 3, 3, .getfield 14, 7, 0, 1, 2, 57), (4, 1, 0, .iload_n 1, 0, 0, 0, 99, 0), (5, 3, 4, .invokevirtual 77, 79, 2, 0, 2, 104), (8, 3, 2, .ifCond .ne 5, 0, 0, 0, 99, 0), (11, 1, 0, .iconst (-1), 0, 0, 0, 99, 0), (12, 1, 2, .ireturn, 0, 0, 0, 99, 0), (13, 1, 0, .aload_n 0, 0, 0, 0, 99, 0), (14, 3, 3, .getfield 14, 7, 0, 1, 2, 57), (17, 1, 0, .iload_n 1, 0, 0, 0, 99, 0), (18, 1, 0, .iload_n 2, 0, 0, 0, 99, 0), (19, 3, 4, .invokevirtual 89, 81, 3, 0, 2, 120), (22, 1, 0, .istore_n 3, 0, 0, 0, 99, 0), (23, 1, 0, .iload_n 3, 0, 0, 0, 99, 0), (24, 3, 2, .ifCond .eq 9, 0, 0, 0, 99, 0), (27, 1, 0, .aload_n 0, 0, 0, 0, 99, 0), (28, 1, 0, .iload_n 3, 0, 0, 0, 99, 0), (29, 3, 4, .invokevirtual 81, 126, 2, 0, 2, 108), (32, 1, 2, .ireturn, 0, 0, 0, 99, 0), (33, 1, 0, .aload_n 0, 0, 0, 0, 99, 0), (34, 1, 0, .aload_n 0, 0, 0, 0, 99, 0), (35, 3, 3, .getfield 14, 7, 0, 1, 2, 57), (38, 3, 3, .getfield 93, 6, 0, 1, 1, 29), (41, 1, 0, .iload_n 1, 0, 0, 0, 99, 0), (42, 1, 3, .aaload, 15, 0, 0, 99, 0), (43, 1, 0, .iload_n 2, 0, 0, 0, 99, 0), (44, 1, 3, .iaload, 0, 0, 0, 99, 0), (45, 3, 3, .putfield 97, 7, 13, 0, 2, 70), (48, 1, 0, .iconst 1, 0, 0, 0, 99, 0), (49, 1, 2, .ireturn, 0, 0, 0, 99, 0)]
def pgX7_tear : List (Nat × Nat × z_En) := [(0, 1, 0, .aload_n 0, 0, 0, 0, 99, 0), (1, 3, 3, .getfield 14, 7, 0, 1, 2, 57), (4, 1, 0, .iload_n 1, 0, 0, 0, 99, 0), (5, 3, 4, .invokevirtual 77, 79, 2, 0, 2, 104), (8, 3, 2, .ifCond .ne 5, 0, 0, 0, 99, 0), (11, 1, 0, .iconst (-1), 0, 0, 0, 99, 0), (12, 1, 2, .ireturn, 0, 0, 0, 99, 0), (13, 1, 0, .aload_n 0, 0, 0, 0, 99, 0), (14, 3, 3, .getfield 14, 7, 0, 1, 2, 57), (17, 1, 0, .iload_n 1, 0, 0, 0, 99, 0), (18, 3, 4, .invokevirtual 101, 80, 2, 0, 2, 136), (21, 3, 2, .ifCond .eq 9, 0, 0, 0, 99, 0), (24, 1, 0, .aload_n 0, 0, 0, 0, 99, 0), (25, 1, 0, .iconst 1, 0, 0, 0, 99, 0), (26, 3, 4, .invokevirtual 81, 126, 2, 0, 2, 108), (29, 1, 2, .ireturn, 0, 0, 0, 99, 0), (30, 1, 0, .aload_n 0, 0, 0, 0, 99, 0), (31, 3, 3, .getfield 14, 7, 0, 1, 2, 57), (34, 3, 3, .getfield 104, 6, 1, 1, 1, 31), (37, 1, 0, .iload_n 1, 0, 0, 0, 99, 0), (38, 1, 0, .iconst (-1), 0, 0, 0, 99, 0), (39, 1, 3, .iastore, 0, 0, 0, 99, 0), (40, 1, 0, .iconst 1, 0, 0, 0, 99, 0), (41, 1, 2, .ireturn, 0, 0, 0, 99, 0)]
def pgX7_copy : List (Nat × Nat × z_En) := [(0, 1, 0, .aload_n 0, 0, 0, 0, 99, 0), (1, 3, 3, .getfield 14, 7, 0, 1, 2, 57), (4, 1, 0, .iload_n 1, 0, 0, 0, 99, 0), (5, 3, 4, .invokevirtual 77, 79, 2, 0, 2, 104), (8, 3, 2, .ifCond .eq 14, 0, 0, 0, 99, 0), (11, 1, 0, .aload_n 0, 0, 0, 0, 99, 0), (12, 3, 3, .getfield 14, 7, 0, 1, 2, 57), (15, 1, 0, .iload_n 3, 0, 0, 0, 99, 0), (16, 3, 4, .invokevirtual 77, 79, 2, 0, 2, 104), (19, 3, 2, .ifCond .ne 5, 0, 0, 0, 99, 0), (22, 1, 0, .iconst (-1), 0, 0, 0, 99, 0), (23, 1, 2, .ireturn, 0, 0, 0, 99, 0), (24, 2, 0, .iload 5, 0, 0, 0, 99, 0), (26, 3, 2, .ifCond .ge 9, 0, 0, 0, 99, 0), (29, 1, 0, .aload_n 0, 0, 0, 0, 99, 0), (30, 1, 0, .iconst 5, 0, 0, 0, 99, 0), (31, 3, 4, .invokevirtual 81, 126, 2, 0, 2, 108), (34, 1, 2, .ireturn, 0, 0, 0, 99, 0), (35, 1, 0, .aload_n 0, 0, 0, 0, 99, 0), (36, 3, 3, .getfield 14, 7, 0, 1, 2, 57), (39, 1, 0, .iload_n 1, 0, 0, 0, 99, 0), (40, 3, 4, .invokevirtual 101, 80, 2, 0, 2, 136), (43, 3, 2, .ifCond .ne 14, 0, 0, 0, 99, 0), (46, 1, 0, .aload_n 0, 0, 0, 0, 99, 0), (47, 3, 3, .getfield 14, 7, 0, 1, 2, 57), (50, 1, 0, .iload_n 3, 0, 0, 0, 99, 0), (51, 3, 4, .invokevirtual 101, 80, 2, 0, 2, 136), (54, 3, 2, .ifCond .eq 9, 0, 0, 0, 99, 0), (57, 1, 0, .aload_n 0, 0, 0, 0, 99, 0), (58, 1, 0, .iconst 1, 0, 0, 0, 99, 0), (59, 3, 4, .invokevirtual 81, 126, 2, 0, 2, 108), (62, 1, 2, .ireturn, 0, 0, 0, 99, 0), (63, 1, 0, .aload_n 0, 0, 0, 0, 99, 0), (64, 3, 3, .getfield 14, 7, 0, 1, 2, 57), (67, 1, 0, .iload_n 1, 0, 0, 0, 99, 0), (68, 1, 0, .iload_n 2, 0, 0, 0, 99, 0), (69, 2, 0, .iload 5, 0, 0, 0, 99, 0), (71, 3, 4, .invokevirtual 107, 82, 4, 0, 2, 141), (74, 3, 2, .ifCond .eq 18, 0, 0, 0, 99, 0), (77, 1, 0, .aload_n 0, 0, 0, 0, 99, 0), (78, 3, 3, .getfield 14, 7, 0, 1, 2, 57), (81, 1, 0, .iload_n 3, 0, 0, 0, 99, 0), (82, 2, 0, .iload 4, 0, 0, 0, 99, 0), (84, 2, 0, .iload 5, 0, 0, 0, 99, 0), (86, 3, 4, .invokevirtual 107, 82, 4, 0, 2, 141), (89, 3, 2, .ifCond .ne 9, 0, 0, 0, 99, 0), (92, 1, 0, .aload_n 0, 0, 0, 0, 99, 0), (93, 1, 0, .iconst 2, 0, 0, 0, 99, 0), (94, 3, 4, .invokevirtual 81, 126, 2, 0, 2, 108), (97, 1, 2, .ireturn, 0, 0, 0, 99, 0), (98, 1, 0, .aload_n 0, 0, 0, 0, 99, 0), (99, 3, 3, .getfield 14, 7, 0, 1, 2, 57), (102, 3, 3, .getfield 93, 6, 0, 1, 1, 29), (105, 1, 0, .iload_n 1, 0, 0, 0, 99, 0), (106, 1, 3, .aaload, 15, 0, 0, 99, 0), (107, 1, 0, .iload_n 2, 0, 0, 0, 99, 0), (108, 1, 0, .aload_n 0, 0, 0, 0, 99, 0), (109, 3, 3, .getfield 14, 7, 0, 1, 2, 57), (112, 3, 3, .getfield 93, 6, 0, 1, 1, 29), (115, 1, 0, .iload_n 3, 0, 0, 0, 99, 0), (116, 1, 3, .aaload, 15, 0, 0, 99, 0), (117, 2, 0, .iload 4, 0, 0, 0, 99, 0), (119, 2, 0, .iload 5, 0, 0, 0, 99, 0), (121, 3, 4, .invokestatic 111, 0, 0, 12, 2, 145), (124, 1, 0, .iconst 1, 0, 0, 0, 99, 0), (125, 1, 2, .ireturn, 0, 0, 0, 99, 0)]
def pgX7_mean : List (Nat × Nat × z_En) := [(0, 1, 0, .aload_n 0, 0, 0, 0, 99, 0), (1, 3, 3, .getfield 14, 7, 0, 1, 2, 57), (4, 1, 0, .iload_n 1, 0, 0, 0, 99, 0), (5, 3, 4, .invokevirtual 77, 79, 2, 0, 2, 104), (8, 3, 2, .ifCond .ne 5, 0, 0, 0, 99, 0), (11, 1, 0, .iconst (-1), 0, 0, 0, 99, 0), (12, 1, 2, .ireturn, 0, 0, 0, 99, 0), (13, 1, 0, .aload_n 0, 0, 0, 0, 99, 0), (14, 3, 3, .getfield 14, 7, 0, 1, 2, 57), (17, 1, 0, .iload_n 1, 0, 0, 0, 99, 0), (18, 3, 4, .invokevirtual 101, 80, 2, 0, 2, 136), (21, 3, 2, .ifCond .eq 9, 0, 0, 0, 99, 0), (24, 1, 0, .aload_n 0, 0, 0, 0, 99, 0), (25, 1, 0, .iconst 1, 0, 0, 0, 99, 0), (26, 3, 4, .invokevirtual 81, 126, 2, 0, 2, 108), (29, 1, 2, .ireturn, 0, 0, 0, 99, 0), (30, 1, 0, .aload_n 0, 0, 0, 0, 99, 0), (31, 3, 3, .getfield 14, 7, 0, 1, 2, 57), (34, 3, 3, .getfield 104, 6, 1, 1, 1, 31), (37, 1, 0, .iload_n 1, 0, 0, 0, 99, 0), (38, 1, 3, .iaload, 0, 0, 0, 99, 0), (39, 1, 0, .istore_n 2, 0, 0, 0, 99, 0), (40, 1, 0, .iload_n 2, 0, 0, 0, 99, 0), (41, 1, 0, .iconst 1, 0, 0, 0, 99, 0), (42, 3, 2, .if_icmp .ge 9, 0, 0, 0, 99, 0), (45, 1, 0, .aload_n 0, 0, 0, 0, 99, 0), (46, 1, 0, .iconst 4, 0, 0, 0, 99, 0), (47, 3, 4, .invokevirtual 81, 126, 2, 0, 2, 108), (50, 1, 2, .ireturn, 0, 0, 0, 99, 0), (51, 1, 0, .lconst 0, 0, 0, 0, 99, 0), (52, 1, 0, .lstore_n 3, 0, 0, 0, 99, 0), (53, 1, 0, .iconst 0, 0, 0, 0, 99, 0), (54, 2, 0, .istore 5, 0, 0, 0, 99, 0), (56, 2, 0, .iload 5, 0, 0, 0, 99, 0), (58, 1, 0, .iload_n 2, 0, 0, 0, 99, 0), (59, 3, 2, .if_icmp .ge 25, 0, 0, 0, 99, 0), (62, 1, 0, .lload_n 3, 0, 0, 0, 99, 0), (63, 1, 0, .aload_n 0, 0, 0, 0, 99, 0), (64, 3, 3, .getfield 14, 7, 0, 1, 2, 57), (67, 3, 3, .getfield 93, 6, 0, 1, 1, 29), (70, 1, 0, .iload_n 1, 0, 0, 0, 99, 0), (71, 1, 3, .aaload, 15, 0, 0, 99, 0), (72, 2, 0, .iload 5, 0, 0, 0, 99, 0), (74, 1, 3, .iaload, 0, 0, 0, 99, 0), (75, 1, 1, .i2l, 0, 0, 0, 99, 0), (76, 1, 1, .ladd, 0, 0, 0, 99, 0), (77, 1, 0, .lstore_n 3, 0, 0, 0, 99, 0), (78, 3, 0, .iinc 5 1, 0, 0, 0, 99, 0), (81, 3, 2, .goto (-25), 0, 0, 0, 99, 0), (84, 1, 0, .aload_n 0, 0, 0, 0, 99, 0), (85, 1, 0, .lload_n 3, 0, 0, 0, 99, 0), (86, 1, 0, .iload_n 2, 0, 0, 0, 99, 0), (87, 1, 1, .i2l, 0, 0, 0, 99, 0), (88, 1, 1, .ldiv, 0, 0, 0, 99, 0), (89, 1, 1, .l2i, 0, 0, 0, 99, 0), (90, 3, 3, .putfield 97, 7, 13, 0, 2, 70), (93, 1, 0, .iconst 1, 0, 0, 0, 99, 0), (94, 1, 2, .ireturn, 0, 0, 0, 99, 0)]
def pgX7_text : List (Nat × Nat × z_En) := [(0, 1, 0, .aload_n 0, 0, 0, 0, 99, 0), (1, 3, 3, .getfield 18, 7, 1, 1, 2, 54), (4, 1, 0, .iload_n 1, 0, 0, 0, 99, 0), (5, 3, 4, .invokevirtual 77, 79, 2, 0, 2, 180), (8, 3, 2, .ifCond .eq 9, 0, 0, 0, 99, 0), (11, 1, 0, .iload_n 2, 0, 0, 0, 99, 0), (12, 2, 0, .bipush 120, 0, 0, 0, 99, 0), (14, 3, 2, .if_icmp .le 5, 0, 0, 0, 99, 0), (17, 1, 0, .iconst (-1), 0, 0, 0, 99, 0), (18, 1, 2, .ireturn, 0, 0, 0, 99, 0), (19, 1, 0, .iload_n 2, 0, 0, 0, 99, 0), (20, 3, 2, .ifCond .ge 9, 0, 0, 0, 99, 0), (23, 1, 0, .aload_n 0, 0, 0, 0, 99, 0), (24, 1, 0, .iconst 5, 0, 0, 0, 99, 0), (25, 3, 4, .invokevirtual 81, 126, 2, 0, 2, 199), (28, 1, 2, .ireturn, 0, 0, 0, 99, 0), (29, 1, 0, .aload_n 0, 0, 0, 0, 99, 0), (30, 3, 3, .getfield 18, 7, 1, 1, 2, 54), (33, 1, 0, .iload_n 1, 0, 0, 0, 99, 0), (34, 1, 0, .iload_n 2, 0, 0, 0, 99, 0), (35, 2, 0, .bipush 32, 0, 0, 0, 99, 0), (37, 3, 4, .invokevirtual 85, 83, 4, 0, 2, 184), (40, 1, 0, .iload_n 2, 0, 0, 0, 99, 0), (41, 1, 2, .ireturn, 0, 0, 0, 99, 0)]
def pgX7_put : List (Nat × Nat × z_En) := [(0, 1, 0, .aload_n 0, 0, 0, 0, 99, 0), (1, 3, 3, .getfield 18, 7, 1, 1, 2, 54), (4, 1, 0, .iload_n 1, 0, 0, 0, 99, 0), (5, 3, 4, .invokevirtual 77, 79, 2, 0, 2, 180), (8, 3, 2, .ifCond .ne 5, 0, 0, 0, 99, 0), (11, 1, 0, .iconst (-1), 0, 0, 0, 99, 0), (12, 1, 2, .ireturn, 0, 0, 0, 99, 0), (13, 1, 0, .aload_n 0, 0, 0, 0, 99, 0), (14, 3, 3, .getfield 18, 7, 1, 1, 2, 54), (17, 1, 0, .iload_n 1, 0, 0, 0, 99, 0), (18, 1, 0, .iload_n 2, 0, 0, 0, 99, 0), (19, 3, 4, .invokevirtual 89, 81, 3, 0, 3, 187), (22, 2, 0, .istore 4, 0, 0, 0, 99, 0), (24, 2, 0, .iload 4, 0, 0, 0, 99, 0), (26, 3, 2, .ifCond .eq 10, 0, 0, 0, 99, 0), (29, 1, 0, .aload_n 0, 0, 0, 0, 99, 0), (30, 2, 0, .iload 4, 0, 0, 0, 99, 0), (32, 3, 4, .invokevirtual 81, 126, 2, 0, 2, 199), (35, 1, 2, .ireturn, 0, 0, 0, 99, 0), (36, 1, 0, .aload_n 0, 0, 0, 0, 99, 0), (37, 3, 3, .getfield 18, 7, 1, 1, 2, 54), (40, 3, 3, .getfield 93, 6, 0, 1, 1, 28), (43, 1, 0, .iload_n 1, 0, 0, 0, 99, 0), (44, 1, 3, .aaload, 15, 0, 0, 99, 0), (45, 1, 0, .iload_n 2, 0, 0, 0, 99, 0), (46, 1, 3, .iaload, 0, 0, 0, 99, 0), (47, 2, 0, .istore 5, 0, 0, 0, 99, 0), (49, 1, 0, .aload_n 0, 0, 0, 0, 99, 0), (50, 3, 3, .getfield 18, 7, 1, 1, 2, 54), (53, 3, 3, .getfield 93, 6, 0, 1, 1, 28), (56, 1, 0, .iload_n 1, 0, 0, 0, 99, 0), (57, 1, 3, .aaload, 15, 0, 0, 99, 0), (58, 1, 0, .iload_n 2, 0, 0, 0, 99, 0), (59, 1, 0, .iload_n 3, 0, 0, 0, 99, 0), (60, 1, 1, .i2b, 0, 0, 0, 99, 0), (61, 1, 3, .iastore, 0, 0, 0, 99, 0), (62, 2, 0, .iload 5, 0, 0, 0, 99, 0), (64, 3, 0, .sipush 1000, 0, 0, 0, 99, 0), (67, 1, 1, .iadd, 0, 0, 0, 99, 0), (68, 1, 2, .ireturn, 0, 0, 0, 99, 0)]
def pgX7_fault : List (Nat × Nat × z_En) := [(0, 1, 0, .aload_n 0, 0, 0, 0, 99, 0), (1, 3, 3, .getfield 18, 7, 1, 1, 2, 54), (4, 1, 0, .iload_n 1, 0, 0, 0, 99, 0), (5, 3, 4, .invokevirtual 77, 79, 2, 0, 2, 180), (8, 3, 2, .ifCond .ne 5, 0, 0, 0, 99, 0), (11, 1, 0, .iconst (-1), 0, 0, 0, 99, 0), (12, 1, 2, .ireturn, 0, 0, 0, 99, 0), (13, 1, 0, .aload_n 0, 0, 0, 0, 99, 0), (14, 3, 3, .getfield 18, 7, 1, 1, 2, 54), (17, 1, 0, .iload_n 1, 0, 0, 0, 99, 0), (18, 3, 4, .invokevirtual 101, 80, 2, 0, 2, 195), (21, 3, 2, .ifCond .eq 9, 0, 0, 0, 99, 0), (24, 1, 0, .aload_n 0, 0, 0, 0, 99, 0), (25, 1, 0, .iconst 1, 0, 0, 0, 99, 0), (26, 3, 4, .invokevirtual 81, 126, 2, 0, 2, 199), (29, 1, 2, .ireturn, 0, 0, 0, 99, 0), (30, 1, 0, .aload_n 0, 0, 0, 0, 99, 0), (31, 3, 3, .getfield 24, 7, 2, 1, 2, 55), (34, 1, 0, .aload_n 0, 0, 0, 0, 99, 0), (35, 3, 3, .getfield 18, 7, 1, 1, 2, 54), (38, 3, 3, .getfield 93, 6, 0, 1, 1, 28), (41, 1, 0, .iload_n 1, 0, 0, 0, 99, 0), (42, 1, 3, .aaload, 15, 0, 0, 99, 0), (43, 1, 0, .aload_n 0, 0, 0, 0, 99, 0), (44, 3, 3, .getfield 18, 7, 1, 1, 2, 54), (47, 3, 3, .getfield 104, 6, 1, 1, 1, 30), (50, 1, 0, .iload_n 1, 0, 0, 0, 99, 0), (51, 1, 3, .iaload, 0, 0, 0, 99, 0), (52, 1, 0, .aload_n 0, 0, 0, 0, 99, 0), (53, 3, 3, .getfield 74, 7, 11, 1, 2, 64), (56, 3, 4, .invokevirtual 117, 19, 4, 0, 3, 199), (59, 1, 2, .ireturn, 0, 0, 0, 99, 0)]
def pgX7_house : List (Nat × Nat × z_En) := [(0, 1, 0, .aload_n 0, 0, 0, 0, 99, 0), (1, 3, 3, .getfield 18, 7, 1, 1, 2, 54), (4, 1, 0, .iload_n 1, 0, 0, 0, 99, 0), (5, 3, 4, .invokevirtual 77, 79, 2, 0, 2, 180), (8, 3, 2, .ifCond .ne 5, 0, 0, 0, 99, 0), (11, 1, 0, .iconst (-1), 0, 0, 0, 99, 0), (12, 1, 2, .ireturn, 0, 0, 0, 99, 0), (13, 1, 0, .aload_n 0, 0, 0, 0, 99, 0), (14, 3, 3, .getfield 18, 7, 1, 1, 2, 54), (17, 1, 0, .iload_n 1, 0, 0, 0, 99, 0), (18, 3, 4, .invokevirtual 101, 80, 2, 0, 2, 195), (21, 3, 2, .ifCond .eq 9, 0, 0, 0, 99, 0), (24, 1, 0, .aload_n 0, 0, 0, 0, 99, 0), (25, 1, 0, .iconst 1, 0, 0, 0, 99, 0), (26, 3, 4, .invokevirtual 81, 126, 2, 0, 2, 199), (29, 1, 2, .ireturn, 0, 0, 0, 99, 0), (30, 1, 0, .aload_n 0, 0, 0, 0, 99, 0), (31, 3, 3, .getfield 24, 7, 2, 1, 2, 55), (34, 1, 0, .aload_n 0, 0, 0, 0, 99, 0), (35, 3, 3, .getfield 18, 7, 1, 1, 2, 54), (38, 3, 3, .getfield 93, 6, 0, 1, 1, 28), (41, 1, 0, .iload_n 1, 0, 0, 0, 99, 0), (42, 1, 3, .aaload, 15, 0, 0, 99, 0), (43, 1, 0, .aload_n 0, 0, 0, 0, 99, 0), (44, 3, 3, .getfield 18, 7, 1, 1, 2, 54), (47, 3, 3, .getfield 104, 6, 1, 1, 1, 30), (50, 1, 0, .iload_n 1, 0, 0, 0, 99, 0), (51, 1, 3, .iaload, 0, 0, 0, 99, 0), (52, 1, 0, .aload_n 0, 0, 0, 0, 99, 0), (53, 3, 3, .getfield 74, 7, 11, 1, 2, 64), (56, 3, 4, .invokevirtual 117, 19, 4, 0, 3, 199), (59, 2, 0, .bipush (-9), 0, 0, 0, 99, 0), (61, 3, 2, .if_icmp .eq 6, 0, 0, 0, 99, 0), (64, 2, 0, .bipush (-4), 0, 0, 0, 99, 0), (66, 1, 2, .ireturn, 0, 0, 0, 99, 0), (67, 1, 0, .aload_n 0, 0, 0, 0, 99, 0), (68, 3, 3, .getfield 74, 7, 11, 1, 2, 64), (71, 1, 0, .astore_n 2, 0, 0, 0, 99, 0), (72, 1, 0, .aload_n 0, 0, 0, 0, 99, 0), (73, 1, 0, .aload_n 0, 0, 0, 0, 99, 0), (74, 3, 3, .getfield 70, 7, 10, 1, 2, 63), (77, 3, 3, .putfield 74, 7, 11, 1, 2, 64), (80, 1, 0, .aload_n 0, 0, 0, 0, 99, 0), (81, 1, 0, .aload_n 2, 0, 0, 0, 99, 0), (82, 3, 3, .putfield 70, 7, 10, 1, 2, 63), (85, 1, 0, .aload_n 0, 0, 0, 0, 99, 0), (86, 3, 3, .getfield 31, 7, 3, 1, 2, 56), (89, 3, 4, .invokevirtual 121, 32, 1, 0, 4, 41), (92, 1, 0, .iconst 0, 0, 0, 0, 99, 0), (93, 1, 0, .istore_n 3, 0, 0, 0, 99, 0), (94, 1, 0, .iload_n 3, 0, 0, 0, 99, 0), (95, 2, 0, .bipush 6, 0, 0, 0, 99, 0), (97, 3, 2, .if_icmp .ge 19, 0, 0, 0, 99, 0), (100, 1, 0, .aload_n 0, 0, 0, 0, 99, 0), (101, 3, 3, .getfield 40, 7, 5, 1, 2, 58), (104, 1, 0, .iload_n 3, 0, 0, 0, 99, 0), (105, 1, 3, .aaload, 14, 0, 0, 99, 0), (106, 1, 0, .iconst 0, 0, 0, 0, 99, 0), (107, 3, 3, .putfield 124, 4, 0, 0, 1, 86), (110, 3, 0, .iinc 3 1, 0, 0, 0, 99, 0), (113, 3, 2, .goto (-19), 0, 0, 0, 99, 0), (116, 1, 0, .aload_n 0, 0, 0, 0, 99, 0), (117, 3, 3, .getfield 70, 7, 10, 1, 2, 63), (120, 3, 3, .getfield 127, 0, 3, 0, 1, 205), (123, 1, 2, .ireturn, 0, 0, 0, 99, 0)]
def pgX7_part : List (Nat × Nat × z_En) := [(0, 1, 0, .aload_n 0, 0, 0, 0, 99, 0), (1, 3, 3, .getfield 70, 7, 10, 1, 2, 67), (4, 1, 0, .iload_n 1, 0, 0, 0, 99, 0), (5, 3, 4, .invokevirtual 130, 2, 2, 0, 3, 17), (8, 3, 2, .ifCond .eq 12, 0, 0, 0, 99, 0), (11, 1, 0, .iload_n 2, 0, 0, 0, 99, 0), (12, 3, 2, .ifCond .lt 8, 0, 0, 0, 99, 0), (15, 1, 0, .iload_n 2, 0, 0, 0, 99, 0), (16, 1, 0, .iconst 2, 0, 0, 0, 99, 0), (17, 3, 2, .if_icmp .le 5, 0, 0, 0, 99, 0), (20, 1, 0, .iconst (-1), 0, 0, 0, 99, 0), (21, 1, 2, .ireturn, 0, 0, 0, 99, 0), (22, 1, 0, .aload_n 0, 0, 0, 0, 99, 0), (23, 1, 0, .aload_n 0, 0, 0, 0, 99, 0), (24, 3, 3, .getfield 70, 7, 10, 1, 2, 67), (27, 1, 0, .iload_n 1, 0, 0, 0, 99, 0), (28, 1, 0, .iload_n 2, 0, 0, 0, 99, 0), (29, 3, 4, .invokevirtual 133, 5, 3, 0, 3, 18), (32, 3, 3, .putfield 97, 7, 13, 0, 2, 70), (35, 1, 0, .iconst 1, 0, 0, 0, 99, 0), (36, 1, 2, .ireturn, 0, 0, 0, 99, 0)]
def pgX7_reader : List (Nat × Nat × z_En) := [(0, 1, 0, .aload_n 0, 0, 0, 0, 99, 0), (1, 3, 3, .getfield 70, 7, 10, 1, 2, 67), (4, 1, 0, .iload_n 1, 0, 0, 0, 99, 0), (5, 3, 4, .invokevirtual 136, 3, 2, 0, 3, 26), (8, 3, 2, .ifCond .eq 12, 0, 0, 0, 99, 0), (11, 1, 0, .iload_n 2, 0, 0, 0, 99, 0), (12, 3, 2, .ifCond .lt 8, 0, 0, 0, 99, 0), (15, 1, 0, .iload_n 2, 0, 0, 0, 99, 0), (16, 1, 0, .iconst 3, 0, 0, 0, 99, 0), (17, 3, 2, .if_icmp .le 5, 0, 0, 0, 99, 0), (20, 1, 0, .iconst (-1), 0, 0, 0, 99, 0), (21, 1, 2, .ireturn, 0, 0, 0, 99, 0), (22, 1, 0, .aload_n 0, 0, 0, 0, 99, 0), (23, 1, 0, .aload_n 0, 0, 0, 0, 99, 0), (24, 3, 3, .getfield 70, 7, 10, 1, 2, 67), (27, 1, 0, .iload_n 1, 0, 0, 0, 99, 0), (28, 1, 0, .iload_n 2, 0, 0, 0, 99, 0), (29, 3, 4, .invokevirtual 139, 6, 3, 0, 3, 30), (32, 3, 3, .putfield 97, 7, 13, 0, 2, 70), (35, 1, 0, .iconst 1, 0, 0, 0, 99, 0), (36, 1, 2, .ireturn, 0, 0, 0, 99, 0)]
def pgX7_want : List (Nat × Nat × z_En) := [(0, 1, 0, .aload_n 0, 0, 0, 0, 99, 0), (1, 3, 3, .getfield 70, 7, 10, 1, 2, 67), (4, 1, 0, .iload_n 1, 0, 0, 0, 99, 0), (5, 3, 4, .invokevirtual 142, 4, 2, 0, 3, 38), (8, 3, 2, .ifCond .eq 12, 0, 0, 0, 99, 0), (11, 1, 0, .iload_n 2, 0, 0, 0, 99, 0), (12, 3, 2, .ifCond .lt 8, 0, 0, 0, 99, 0), (15, 1, 0, .iload_n 2, 0, 0, 0, 99, 0), (16, 1, 0, .iconst 5, 0, 0, 0, 99, 0), (17, 3, 2, .if_icmp .le 5, 0, 0, 0, 99, 0), (20, 1, 0, .iconst (-1), 0, 0, 0, 99, 0), (21, 1, 2, .ireturn, 0, 0, 0, 99, 0), (22, 1, 0, .aload_n 0, 0, 0, 0, 99, 0), (23, 1, 0, .aload_n 0, 0, 0, 0, 99, 0), (24, 1, 0, .iload_n 1, 0, 0, 0, 99, 0), (25, 1, 0, .iload_n 2, 0, 0, 0, 99, 0), (26, 3, 4, .invokevirtual 145, 128, 3, 0, 3, 42), (29, 3, 3, .putfield 97, 7, 13, 0, 2, 70), (32, 1, 0, .iconst 1, 0, 0, 0, 99, 0), (33, 1, 2, .ireturn, 0, 0, 0, 99, 0)]
def pgX7_copies : List (Nat × Nat × z_En) := [(0, 1, 0, .aload_n 0, 0, 0, 0, 99, 0), (1, 3, 3, .getfield 70, 7, 10, 1, 2, 63), (4, 1, 0, .iload_n 1, 0, 0, 0, 99, 0), (5, 3, 4, .invokevirtual 130, 2, 2, 0, 2, 100), (8, 3, 2, .ifCond .eq 13, 0, 0, 0, 99, 0), (11, 1, 0, .iload_n 2, 0, 0, 0, 99, 0), (12, 1, 0, .iconst 1, 0, 0, 0, 99, 0), (13, 3, 2, .if_icmp .lt 8, 0, 0, 0, 99, 0), (16, 1, 0, .iload_n 2, 0, 0, 0, 99, 0), (17, 1, 0, .iconst 2, 0, 0, 0, 99, 0), (18, 3, 2, .if_icmp .le 5, 0, 0, 0, 99, 0), (21, 1, 0, .iconst (-1), 0, 0, 0, 99, 0), (22, 1, 2, .ireturn, 0, 0, 0, 99, 0), (23, 1, 0, .aload_n 0, 0, 0, 0, 99, 0), (24, 3, 3, .getfield 70, 7, 10, 1, 2, 63), (27, 3, 3, .getfield 148, 0, 4, 1, 1, 210), (30, 1, 0, .iload_n 1, 0, 0, 0, 99, 0), (31, 1, 3, .iaload, 0, 0, 0, 99, 0), (32, 1, 0, .istore_n 3, 0, 0, 0, 99, 0), (33, 1, 0, .aload_n 0, 0, 0, 0, 99, 0), (34, 3, 3, .getfield 70, 7, 10, 1, 2, 63), (37, 3, 3, .getfield 148, 0, 4, 1, 1, 210), (40, 1, 0, .iload_n 1, 0, 0, 0, 99, 0), (41, 1, 0, .iload_n 2, 0, 0, 0, 99, 0), (42, 1, 3, .iastore, 0, 0, 0, 99, 0), (43, 1, 0, .iload_n 3, 0, 0, 0, 99, 0), (44, 1, 2, .ireturn, 0, 0, 0, 99, 0)]
def pgX7_post : List (Nat × Nat × z_En) := [(0, 1, 0, .aload_n 0, 0, 0, 0, 99, 0), (1, 3, 3, .getfield 70, 7, 10, 1, 2, 67), (4, 1, 0, .iload_n 1, 0, 0, 0, 99, 0), (5, 3, 4, .invokevirtual 130, 2, 2, 0, 3, 17), (8, 3, 2, .ifCond .eq 23, 0, 0, 0, 99, 0), (11, 1, 0, .iload_n 2, 0, 0, 0, 99, 0), (12, 3, 2, .ifCond .lt 19, 0, 0, 0, 99, 0), (15, 1, 0, .iload_n 2, 0, 0, 0, 99, 0), (16, 2, 0, .bipush 59, 0, 0, 0, 99, 0), (18, 3, 2, .if_icmp .gt 13, 0, 0, 0, 99, 0), (21, 1, 0, .iload_n 3, 0, 0, 0, 99, 0), (22, 3, 2, .ifCond .lt 9, 0, 0, 0, 99, 0), (25, 1, 0, .iload_n 3, 0, 0, 0, 99, 0), (26, 2, 0, .bipush 9, 0, 0, 0, 99, 0), (28, 3, 2, .if_icmp .le 5, 0, 0, 0, 99, 0), (31, 1, 0, .iconst (-1), 0, 0, 0, 99, 0), (32, 1, 2, .ireturn, 0, 0, 0, 99, 0), (33, 1, 0, .aload_n 0, 0, 0, 0, 99, 0), (34, 3, 3, .getfield 70, 7, 10, 1, 2, 67), (37, 3, 3, .getfield 151, 0, 5, 1, 1, 217), (40, 1, 0, .iload_n 1, 0, 0, 0, 99, 0), (41, 1, 0, .iload_n 2, 0, 0, 0, 99, 0), (42, 1, 3, .iastore, 0, 0, 0, 99, 0), (43, 1, 0, .aload_n 0, 0, 0, 0, 99, 0), (44, 3, 3, .getfield 70, 7, 10, 1, 2, 67), (47, 3, 3, .getfield 154, 0, 6, 1, 1, 219), (50, 1, 0, .iload_n 1, 0, 0, 0, 99, 0), (51, 1, 0, .iload_n 3, 0, 0, 0, 99, 0), (52, 1, 3, .iastore, 0, 0, 0, 99, 0), (53, 1, 0, .iconst 1, 0, 0, 0, 99, 0), (54, 1, 2, .ireturn, 0, 0, 0, 99, 0)]
def pgX7_late : List (Nat × Nat × z_En) := [(0, 1, 0, .aload_n 0, 0, 0, 0, 99, 0), (1, 3, 3, .getfield 70, 7, 10, 1, 2, 63), (4, 1, 0, .iload_n 1, 0, 0, 0, 99, 0), (5, 3, 4, .invokevirtual 136, 3, 2, 0, 2, 108), (8, 3, 2, .ifCond .eq 18, 0, 0, 0, 99, 0), (11, 1, 0, .iload_n 2, 0, 0, 0, 99, 0), (12, 3, 2, .ifCond .lt 14, 0, 0, 0, 99, 0), (15, 1, 0, .iload_n 3, 0, 0, 0, 99, 0), (16, 2, 0, .bipush 60, 0, 0, 0, 99, 0), (18, 3, 2, .if_icmp .gt 8, 0, 0, 0, 99, 0), (21, 1, 0, .iload_n 2, 0, 0, 0, 99, 0), (22, 1, 0, .iload_n 3, 0, 0, 0, 99, 0), (23, 3, 2, .if_icmp .lt 5, 0, 0, 0, 99, 0), (26, 1, 0, .iconst (-1), 0, 0, 0, 99, 0), (27, 1, 2, .ireturn, 0, 0, 0, 99, 0), (28, 1, 0, .aload_n 0, 0, 0, 0, 99, 0), (29, 3, 3, .getfield 70, 7, 10, 1, 2, 63), (32, 3, 3, .getfield 157, 0, 8, 1, 1, 221), (35, 1, 0, .iload_n 1, 0, 0, 0, 99, 0), (36, 1, 0, .iload_n 2, 0, 0, 0, 99, 0), (37, 1, 3, .iastore, 0, 0, 0, 99, 0), (38, 1, 0, .aload_n 0, 0, 0, 0, 99, 0), (39, 3, 3, .getfield 70, 7, 10, 1, 2, 63), (42, 3, 3, .getfield 160, 0, 9, 1, 1, 224), (45, 1, 0, .iload_n 1, 0, 0, 0, 99, 0), (46, 1, 0, .iload_n 3, 0, 0, 0, 99, 0), (47, 1, 3, .iastore, 0, 0, 0, 99, 0), (48, 1, 0, .iconst 1, 0, 0, 0, 99, 0), (49, 1, 2, .ireturn, 0, 0, 0, 99, 0)]
def pgX7_read : List (Nat × Nat × z_En) := [(0, 1, 0, .aload_n 0, 0, 0, 0, 99, 0), (1, 3, 3, .getfield 70, 7, 10, 1, 2, 67), (4, 1, 0, .iload_n 1, 0, 0, 0, 99, 0), (5, 3, 4, .invokevirtual 142, 4, 2, 0, 3, 38), (8, 3, 2, .ifCond .eq 10, 0, 0, 0, 99, 0), (11, 1, 0, .iload_n 2, 0, 0, 0, 99, 0), (12, 3, 4, .invokestatic 163, 127, 1, 1, 3, 66), (15, 3, 2, .ifCond .ne 5, 0, 0, 0, 99, 0), (18, 1, 0, .iconst (-1), 0, 0, 0, 99, 0), (19, 1, 2, .ireturn, 0, 0, 0, 99, 0), (20, 1, 0, .aload_n 0, 0, 0, 0, 99, 0), (21, 3, 3, .getfield 31, 7, 3, 1, 2, 60), (24, 3, 3, .getfield 166, 2, 0, 1, 1, 74), (27, 1, 0, .iload_n 1, 0, 0, 0, 99, 0), (28, 1, 3, .iaload, 0, 0, 0, 99, 0), (29, 1, 0, .istore_n 3, 0, 0, 0, 99, 0), (30, 1, 0, .aload_n 0, 0, 0, 0, 99, 0), (31, 3, 3, .getfield 31, 7, 3, 1, 2, 60), (34, 3, 3, .getfield 166, 2, 0, 1, 1, 74), (37, 1, 0, .iload_n 1, 0, 0, 0, 99, 0), (38, 1, 0, .iload_n 2, 0, 0, 0, 99, 0), (39, 1, 3, .iastore, 0, 0, 0, 99, 0), (40, 1, 0, .iload_n 3, 0, 0, 0, 99, 0), (41, 1, 2, .ireturn, 0, 0, 0, 99, 0)]
def pgX7_judge : List (Nat × Nat × z_En) := [(0, 1, 0, .aload_n 0, 0, 0, 0, 99, 0), (1, 3, 3, .getfield 31, 7, 3, 1, 2, 56), (4, 1, 0, .aload_n 0, 0, 0, 0, 99, 0), (5, 3, 3, .getfield 70, 7, 10, 1, 2, 63), (8, 3, 4, .invokevirtual 169, 40, 2, 0, 2, 116), (11, 1, 2, .ireturn, 0, 0, 0, 99, 0)]
def pgX7_missed : List (Nat × Nat × z_En) := [(0, 1, 0, .iload_n 1, 0, 0, 0, 99, 0), (1, 2, 0, .bipush (-9), 0, 0, 0, 99, 0), (3, 3, 2, .if_icmp .ne 15, 0, 0, 0, 99, 0), (6, 1, 0, .aload_n 0, 0, 0, 0, 99, 0), (7, 3, 3, .getfield 31, 7, 3, 1, 2, 56), (10, 1, 0, .aload_n 0, 0, 0, 0, 99, 0), (11, 3, 3, .getfield 70, 7, 10, 1, 2, 63), (14, 3, 4, .invokevirtual 173, 38, 2, 0, 2, 159), (17, 1, 2, .ireturn, 0, 0, 0, 99, 0), (18, 1, 0, .aload_n 0, 0, 0, 0, 99, 0), (19, 3, 3, .getfield 70, 7, 10, 1, 2, 63), (22, 1, 0, .iload_n 1, 0, 0, 0, 99, 0), (23, 3, 4, .invokevirtual 136, 3, 2, 0, 2, 108), (26, 3, 2, .ifCond .eq 18, 0, 0, 0, 99, 0), (29, 1, 0, .aload_n 0, 0, 0, 0, 99, 0), (30, 3, 3, .getfield 31, 7, 3, 1, 2, 56), (33, 1, 0, .aload_n 0, 0, 0, 0, 99, 0), (34, 3, 3, .getfield 70, 7, 10, 1, 2, 63), (37, 1, 0, .iload_n 1, 0, 0, 0, 99, 0), (38, 3, 4, .invokevirtual 176, 37, 3, 0, 2, 172), (41, 3, 2, .goto 4, 0, 0, 0, 99, 0), (44, 1, 0, .iconst (-1), 0, 0, 0, 99, 0), (45, 1, 2, .ireturn, 0, 0, 0, 99, 0)]
def pgX7_who : List (Nat × Nat × z_En) := [(0, 1, 0, .aload_n 0, 0, 0, 0, 99, 0), (1, 3, 3, .getfield 70, 7, 10, 1, 2, 67), (4, 1, 0, .iload_n 1, 0, 0, 0, 99, 0), (5, 3, 4, .invokevirtual 130, 2, 2, 0, 3, 17), (8, 3, 2, .ifCond .eq 13, 0, 0, 0, 99, 0), (11, 1, 0, .iload_n 2, 0, 0, 0, 99, 0), (12, 3, 2, .ifCond .lt 9, 0, 0, 0, 99, 0), (15, 1, 0, .iload_n 2, 0, 0, 0, 99, 0), (16, 2, 0, .bipush 60, 0, 0, 0, 99, 0), (18, 3, 2, .if_icmp .le 5, 0, 0, 0, 99, 0), (21, 1, 0, .iconst (-1), 0, 0, 0, 99, 0), (22, 1, 2, .ireturn, 0, 0, 0, 99, 0), (23, 1, 0, .iconst 0, 0, 0, 0, 99, 0), (24, 1, 0, .istore_n 3, 0, 0, 0, 99, 0), (25, 1, 0, .iconst 0, 0, 0, 0, 99, 0), (26, 2, 0, .istore 4, 0, 0, 0, 99, 0), (28, 2, 0, .iload 4, 0, 0, 0, 99, 0), (30, 1, 0, .aload_n 0, 0, 0, 0, 99, 0), (31, 3, 3, .getfield 70, 7, 10, 1, 2, 67), (34, 3, 3, .getfield 127, 0, 3, 0, 1, 207), (37, 3, 2, .if_icmp .ge 55, 0, 0, 0, 99, 0), (40, 1, 0, .aload_n 0, 0, 0, 0, 99, 0), (41, 3, 3, .getfield 70, 7, 10, 1, 2, 67), (44, 3, 3, .getfield 180, 0, 13, 1, 2, 1), (47, 2, 0, .iload 4, 0, 0, 0, 99, 0), (49, 1, 3, .iaload, 0, 0, 0, 99, 0), (50, 1, 0, .iload_n 1, 0, 0, 0, 99, 0), (51, 3, 2, .if_icmp .ne 35, 0, 0, 0, 99, 0), (54, 1, 0, .aload_n 0, 0, 0, 0, 99, 0), (55, 3, 3, .getfield 31, 7, 3, 1, 2, 60), (58, 1, 0, .aload_n 0, 0, 0, 0, 99, 0), (59, 3, 3, .getfield 70, 7, 10, 1, 2, 67), (62, 2, 0, .iload 4, 0, 0, 0, 99, 0), (64, 1, 0, .iload_n 2, 0, 0, 0, 99, 0), (65, 3, 4, .invokevirtual 183, 36, 4, 0, 3, 137), (68, 3, 2, .ifCond .eq 18, 0, 0, 0, 99, 0), (71, 1, 0, .iload_n 3, 0, 0, 0, 99, 0), (72, 1, 0, .iconst 1, 0, 0, 0, 99, 0), (73, 1, 0, .aload_n 0, 0, 0, 0, 99, 0), (74, 3, 3, .getfield 70, 7, 10, 1, 2, 67), (77, 3, 3, .getfield 187, 0, 12, 1, 1, 236), (80, 2, 0, .iload 4, 0, 0, 0, 99, 0), (82, 1, 3, .iaload, 0, 0, 0, 99, 0), (83, 1, 1, .ishl, 0, 0, 0, 99, 0), (84, 1, 1, .ior, 0, 0, 0, 99, 0), (85, 1, 0, .istore_n 3, 0, 0, 0, 99, 0), (86, 3, 0, .iinc 4 1, 0, 0, 0, 99, 0), (89, 3, 2, .goto (-61), 0, 0, 0, 99, 0), (92, 1, 0, .iload_n 3, 0, 0, 0, 99, 0), (93, 1, 2, .ireturn, 0, 0, 0, 99, 0)]
def pgX7_can : List (Nat × Nat × z_En) := [(0, 1, 0, .aload_n 0, 0, 0, 0, 99, 0), (1, 3, 3, .getfield 70, 7, 10, 1, 2, 67), (4, 1, 0, .iload_n 1, 0, 0, 0, 99, 0), (5, 3, 4, .invokevirtual 136, 3, 2, 0, 3, 26), (8, 3, 2, .ifCond .eq 13, 0, 0, 0, 99, 0), (11, 1, 0, .iload_n 2, 0, 0, 0, 99, 0), (12, 3, 2, .ifCond .lt 9, 0, 0, 0, 99, 0), (15, 1, 0, .iload_n 2, 0, 0, 0, 99, 0), (16, 2, 0, .bipush 59, 0, 0, 0, 99, 0), (18, 3, 2, .if_icmp .le 5, 0, 0, 0, 99, 0), (21, 1, 0, .iconst (-1), 0, 0, 0, 99, 0), (22, 1, 2, .ireturn, 0, 0, 0, 99, 0), (23, 1, 0, .aload_n 0, 0, 0, 0, 99, 0), (24, 3, 3, .getfield 31, 7, 3, 1, 2, 60), (27, 1, 0, .aload_n 0, 0, 0, 0, 99, 0), (28, 3, 3, .getfield 70, 7, 10, 1, 2, 67), (31, 3, 4, .invokevirtual 169, 40, 2, 0, 3, 73), (34, 2, 0, .bipush (-9), 0, 0, 0, 99, 0), (36, 3, 2, .if_icmp .eq 6, 0, 0, 0, 99, 0), (39, 2, 0, .bipush (-4), 0, 0, 0, 99, 0), (41, 1, 2, .ireturn, 0, 0, 0, 99, 0), (42, 1, 0, .iconst 0, 0, 0, 0, 99, 0), (43, 1, 0, .istore_n 3, 0, 0, 0, 99, 0), (44, 1, 0, .iconst 0, 0, 0, 0, 99, 0), (45, 2, 0, .istore 4, 0, 0, 0, 99, 0), (47, 2, 0, .iload 4, 0, 0, 0, 99, 0), (49, 1, 0, .aload_n 0, 0, 0, 0, 99, 0), (50, 3, 3, .getfield 70, 7, 10, 1, 2, 67), (53, 3, 3, .getfield 127, 0, 3, 0, 1, 207), (56, 3, 2, .if_icmp .ge 84, 0, 0, 0, 99, 0), (59, 1, 0, .aload_n 0, 0, 0, 0, 99, 0), (60, 3, 3, .getfield 70, 7, 10, 1, 2, 67), (63, 3, 3, .getfield 187, 0, 12, 1, 1, 236), (66, 2, 0, .iload 4, 0, 0, 0, 99, 0), (68, 1, 3, .iaload, 0, 0, 0, 99, 0), (69, 1, 0, .iload_n 1, 0, 0, 0, 99, 0), (70, 3, 2, .if_icmp .ne 64, 0, 0, 0, 99, 0), (73, 1, 0, .aload_n 0, 0, 0, 0, 99, 0), (74, 3, 3, .getfield 31, 7, 3, 1, 2, 60), (77, 3, 3, .getfield 166, 2, 0, 1, 1, 74), (80, 2, 0, .iload 4, 0, 0, 0, 99, 0), (82, 1, 3, .iaload, 0, 0, 0, 99, 0), (83, 2, 0, .bipush (-9), 0, 0, 0, 99, 0), (85, 3, 2, .if_icmp .ne 49, 0, 0, 0, 99, 0), (88, 1, 0, .aload_n 0, 0, 0, 0, 99, 0), (89, 3, 3, .getfield 31, 7, 3, 1, 2, 60), (92, 3, 3, .getfield 166, 2, 0, 1, 1, 74), (95, 2, 0, .iload 4, 0, 0, 0, 99, 0), (97, 1, 0, .iload_n 2, 0, 0, 0, 99, 0), (98, 1, 3, .iastore, 0, 0, 0, 99, 0), (99, 1, 0, .aload_n 0, 0, 0, 0, 99, 0), (100, 3, 3, .getfield 31, 7, 3, 1, 2, 60), (103, 1, 0, .aload_n 0, 0, 0, 0, 99, 0), (104, 3, 3, .getfield 70, 7, 10, 1, 2, 67), (107, 3, 4, .invokevirtual 169, 40, 2, 0, 3, 73), (110, 2, 0, .bipush (-9), 0, 0, 0, 99, 0), (112, 3, 2, .if_icmp .ne 10, 0, 0, 0, 99, 0), (115, 1, 0, .iload_n 3, 0, 0, 0, 99, 0), (116, 1, 0, .iconst 1, 0, 0, 0, 99, 0), (117, 2, 0, .iload 4, 0, 0, 0, 99, 0), (119, 1, 1, .ishl, 0, 0, 0, 99, 0), (120, 1, 1, .ior, 0, 0, 0, 99, 0), (121, 1, 0, .istore_n 3, 0, 0, 0, 99, 0), (122, 1, 0, .aload_n 0, 0, 0, 0, 99, 0), (123, 3, 3, .getfield 31, 7, 3, 1, 2, 60), (126, 3, 3, .getfield 166, 2, 0, 1, 1, 74), (129, 2, 0, .iload 4, 0, 0, 0, 99, 0), (131, 2, 0, .bipush (-9), 0, 0, 0, 99, 0), (133, 1, 3, .iastore, 0, 0, 0, 99, 0), (134, 3, 0, .iinc 4 1, 0, 0, 0, 99, 0), (137, 3, 2, .goto (-90), 0, 0, 0, 99, 0), (140, 1, 0, .iload_n 3, 0, 0, 0, 99, 0), (141, 1, 2, .ireturn, 0, 0, 0, 99, 0)]
def pgX7_image : List (Nat × Nat × z_En) := [(0, 1, 0, .aload_n 0, 0, 0, 0, 99, 0), (1, 3, 3, .getfield 14, 7, 0, 1, 2, 53), (4, 1, 0, .iload_n 1, 0, 0, 0, 99, 0), (5, 3, 4, .invokevirtual 77, 79, 2, 0, 2, 180), (8, 3, 2, .ifCond .ne 5, 0, 0, 0, 99, 0), (11, 1, 0, .iconst (-1), 0, 0, 0, 99, 0), (12, 1, 2, .ireturn, 0, 0, 0, 99, 0), (13, 1, 0, .aload_n 0, 0, 0, 0, 99, 0), (14, 3, 3, .getfield 14, 7, 0, 1, 2, 53), (17, 1, 0, .iload_n 1, 0, 0, 0, 99, 0), (18, 1, 0, .aload_n 0, 0, 0, 0, 99, 0), (19, 3, 3, .getfield 70, 7, 10, 1, 2, 63), (22, 3, 3, .getfield 127, 0, 3, 0, 1, 205), (25, 2, 0, .bipush (-9), 0, 0, 0, 99, 0), (27, 3, 4, .invokevirtual 85, 83, 4, 0, 2, 184), (30, 1, 0, .aload_n 0, 0, 0, 0, 99, 0), (31, 3, 3, .getfield 31, 7, 3, 1, 2, 56), (34, 3, 3, .getfield 166, 2, 0, 1, 1, 73), (37, 1, 0, .iconst 0, 0, 0, 0, 99, 0), (38, 1, 0, .aload_n 0, 0, 0, 0, 99, 0), (39, 3, 3, .getfield 14, 7, 0, 1, 2, 53), (42, 3, 3, .getfield 93, 6, 0, 1, 1, 28), (45, 1, 0, .iload_n 1, 0, 0, 0, 99, 0), (46, 1, 3, .aaload, 15, 0, 0, 99, 0), (47, 1, 0, .iconst 0, 0, 0, 0, 99, 0), (48, 1, 0, .aload_n 0, 0, 0, 0, 99, 0), (49, 3, 3, .getfield 70, 7, 10, 1, 2, 63), (52, 3, 3, .getfield 127, 0, 3, 0, 1, 205), (55, 3, 4, .invokestatic 111, 0, 0, 12, 2, 188), (58, 1, 0, .aload_n 0, 0, 0, 0, 99, 0), (59, 3, 3, .getfield 70, 7, 10, 1, 2, 63), (62, 3, 3, .getfield 127, 0, 3, 0, 1, 205), (65, 1, 2, .ireturn, 0, 0, 0, 99, 0)]
def pgX7_on : List (Nat × Nat × z_En) := [(0, 1, 0, .aload_n 0, 0, 0, 0, 99, 0), (1, 3, 3, .getfield 14, 7, 0, 1, 2, 53), (4, 1, 0, .iload_n 1, 0, 0, 0, 99, 0), (5, 3, 4, .invokevirtual 77, 79, 2, 0, 2, 180), (8, 3, 2, .ifCond .ne 5, 0, 0, 0, 99, 0), (11, 1, 0, .iconst (-1), 0, 0, 0, 99, 0), (12, 1, 2, .ireturn, 0, 0, 0, 99, 0), (13, 1, 0, .aload_n 0, 0, 0, 0, 99, 0), (14, 3, 3, .getfield 14, 7, 0, 1, 2, 53), (17, 1, 0, .iload_n 1, 0, 0, 0, 99, 0), (18, 3, 4, .invokevirtual 101, 80, 2, 0, 2, 195), (21, 3, 2, .ifCond .eq 9, 0, 0, 0, 99, 0), (24, 1, 0, .aload_n 0, 0, 0, 0, 99, 0), (25, 1, 0, .iconst 1, 0, 0, 0, 99, 0), (26, 3, 4, .invokevirtual 81, 126, 2, 0, 2, 199), (29, 1, 2, .ireturn, 0, 0, 0, 99, 0), (30, 1, 0, .aload_n 0, 0, 0, 0, 99, 0), (31, 3, 3, .getfield 14, 7, 0, 1, 2, 53), (34, 3, 3, .getfield 104, 6, 1, 1, 1, 30), (37, 1, 0, .iload_n 1, 0, 0, 0, 99, 0), (38, 1, 3, .iaload, 0, 0, 0, 99, 0), (39, 1, 0, .aload_n 0, 0, 0, 0, 99, 0), (40, 3, 3, .getfield 70, 7, 10, 1, 2, 63), (43, 3, 3, .getfield 127, 0, 3, 0, 1, 205), (46, 3, 2, .if_icmp .eq 9, 0, 0, 0, 99, 0), (49, 1, 0, .aload_n 0, 0, 0, 0, 99, 0), (50, 1, 0, .iconst 5, 0, 0, 0, 99, 0), (51, 3, 4, .invokevirtual 81, 126, 2, 0, 2, 199), (54, 1, 2, .ireturn, 0, 0, 0, 99, 0), (55, 1, 0, .iconst 0, 0, 0, 0, 99, 0), (56, 1, 0, .istore_n 2, 0, 0, 0, 99, 0), (57, 1, 0, .iload_n 2, 0, 0, 0, 99, 0), (58, 1, 0, .aload_n 0, 0, 0, 0, 99, 0), (59, 3, 3, .getfield 70, 7, 10, 1, 2, 63), (62, 3, 3, .getfield 127, 0, 3, 0, 1, 205), (65, 3, 2, .if_icmp .ge 32, 0, 0, 0, 99, 0), (68, 1, 0, .aload_n 0, 0, 0, 0, 99, 0), (69, 3, 3, .getfield 14, 7, 0, 1, 2, 53), (72, 3, 3, .getfield 93, 6, 0, 1, 1, 28), (75, 1, 0, .iload_n 1, 0, 0, 0, 99, 0), (76, 1, 3, .aaload, 15, 0, 0, 99, 0), (77, 1, 0, .iload_n 2, 0, 0, 0, 99, 0), (78, 1, 3, .iaload, 0, 0, 0, 99, 0), (79, 3, 4, .invokestatic 163, 127, 1, 1, 2, 203), (82, 3, 2, .ifCond .ne 9, 0, 0, 0, 99, 0), (85, 1, 0, .aload_n 0, 0, 0, 0, 99, 0), (86, 1, 0, .iconst 3, 0, 0, 0, 99, 0), (87, 3, 4, .invokevirtual 81, 126, 2, 0, 2, 199), (90, 1, 2, .ireturn, 0, 0, 0, 99, 0), (91, 3, 0, .iinc 2 1, 0, 0, 0, 99, 0), (94, 3, 2, .goto (-37), 0, 0, 0, 99, 0), (97, 1, 0, .aload_n 0, 0, 0, 0, 99, 0), (98, 3, 3, .getfield 31, 7, 3, 1, 2, 56), (101, 1, 0, .aload_n 0, 0, 0, 0, 99, 0), (102, 3, 3, .getfield 14, 7, 0, 1, 2, 53), (105, 3, 3, .getfield 93, 6, 0, 1, 1, 28), (108, 1, 0, .iload_n 1, 0, 0, 0, 99, 0), (109, 1, 3, .aaload, 15, 0, 0, 99, 0), (110, 1, 0, .aload_n 0, 0, 0, 0, 99, 0), (111, 3, 3, .getfield 70, 7, 10, 1, 2, 63), (114, 3, 3, .getfield 127, 0, 3, 0, 1, 205), (117, 3, 4, .invokevirtual 190, 33, 3, 0, 2, 206), (120, 1, 0, .iconst 1, 0, 0, 0, 99, 0), (121, 1, 2, .ireturn, 0, 0, 0, 99, 0)]
def pgX7_rule : List (Nat × Nat × z_En) := [(0, 1, 0, .iload_n 1, 0, 0, 0, 99, 0), (1, 3, 2, .ifCond .lt 19, 0, 0, 0, 99, 0), (4, 1, 0, .iload_n 1, 0, 0, 0, 99, 0), (5, 2, 0, .bipush 6, 0, 0, 0, 99, 0), (7, 3, 2, .if_icmp .ge 13, 0, 0, 0, 99, 0), (10, 1, 0, .iload_n 2, 0, 0, 0, 99, 0), (11, 1, 0, .iconst 1, 0, 0, 0, 99, 0), (12, 3, 2, .if_icmp .lt 8, 0, 0, 0, 99, 0), (15, 1, 0, .iload_n 2, 0, 0, 0, 99, 0), (16, 1, 0, .iconst 5, 0, 0, 0, 99, 0), (17, 3, 2, .if_icmp .le 5, 0, 0, 0, 99, 0), (20, 1, 0, .iconst (-1), 0, 0, 0, 99, 0), (21, 1, 2, .ireturn, 0, 0, 0, 99, 0), (22, 1, 0, .iload_n 2, 0, 0, 0, 99, 0), (23, 1, 0, .iconst 1, 0, 0, 0, 99, 0), (24, 3, 2, .if_icmp .eq 8, 0, 0, 0, 99, 0), (27, 1, 0, .iload_n 2, 0, 0, 0, 99, 0), (28, 1, 0, .iconst 2, 0, 0, 0, 99, 0), (29, 3, 2, .if_icmp .ne 65, 0, 0, 0, 99, 0), (32, 1, 0, .aload_n 0, 0, 0, 0, 99, 0), (33, 3, 3, .getfield 14, 7, 0, 1, 2, 53), (36, 1, 0, .iload_n 3, 0, 0, 0, 99, 0), (37, 3, 4, .invokevirtual 77, 79, 2, 0, 2, 180), (40, 3, 2, .ifCond .ne 5, 0, 0, 0, 99, 0), (43, 1, 0, .iconst (-1), 0, 0, 0, 99, 0), (44, 1, 2, .ireturn, 0, 0, 0, 99, 0), (45, 1, 0, .aload_n 0, 0, 0, 0, 99, 0), (46, 1, 0, .iload_n 3, 0, 0, 0, 99, 0), (47, 3, 4, .invokevirtual 194, 129, 2, 0, 2, 214), (50, 2, 0, .istore 4, 0, 0, 0, 99, 0), (52, 2, 0, .iload 4, 0, 0, 0, 99, 0), (54, 3, 2, .ifCond .eq 10, 0, 0, 0, 99, 0), (57, 1, 0, .aload_n 0, 0, 0, 0, 99, 0), (58, 2, 0, .iload 4, 0, 0, 0, 99, 0), (60, 3, 4, .invokevirtual 81, 126, 2, 0, 2, 199), (63, 1, 2, .ireturn, 0, 0, 0, 99, 0), (64, 1, 0, .aload_n 0, 0, 0, 0, 99, 0), (65, 3, 3, .getfield 14, 7, 0, 1, 2, 53), (68, 3, 3, .getfield 93, 6, 0, 1, 1, 28), (71, 1, 0, .iload_n 3, 0, 0, 0, 99, 0), (72, 1, 3, .aaload, 15, 0, 0, 99, 0), (73, 1, 0, .iconst 0, 0, 0, 0, 99, 0), (74, 1, 0, .aload_n 0, 0, 0, 0, 99, 0), (75, 3, 3, .getfield 40, 7, 5, 1, 2, 58), (78, 1, 0, .iload_n 1, 0, 0, 0, 99, 0), (79, 1, 3, .aaload, 14, 0, 0, 99, 0), (80, 3, 3, .getfield 197, 4, 1, 1, 1, 89), (83, 1, 0, .iconst 0, 0, 0, 0, 99, 0), (84, 1, 0, .aload_n 0, 0, 0, 0, 99, 0), (85, 3, 3, .getfield 70, 7, 10, 1, 2, 63), (88, 3, 3, .getfield 200, 0, 2, 0, 1, 199), (91, 3, 4, .invokestatic 111, 0, 0, 12, 2, 188), (94, 1, 0, .aload_n 0, 0, 0, 0, 99, 0), (95, 3, 3, .getfield 40, 7, 5, 1, 2, 58), (98, 1, 0, .iload_n 1, 0, 0, 0, 99, 0), (99, 1, 3, .aaload, 14, 0, 0, 99, 0), (100, 1, 0, .iload_n 2, 0, 0, 0, 99, 0), (101, 3, 3, .putfield 124, 4, 0, 0, 1, 86), (104, 1, 0, .iconst 1, 0, 0, 0, 99, 0), (105, 1, 2, .ireturn, 0, 0, 0, 99, 0)]
def pgX7_mark : List (Nat × Nat × z_En) := [(0, 1, 0, .iload_n 1, 0, 0, 0, 99, 0), (1, 3, 2, .ifCond .lt 19, 0, 0, 0, 99, 0), (4, 1, 0, .iload_n 1, 0, 0, 0, 99, 0), (5, 2, 0, .bipush 6, 0, 0, 0, 99, 0), (7, 3, 2, .if_icmp .ge 13, 0, 0, 0, 99, 0), (10, 1, 0, .iload_n 2, 0, 0, 0, 99, 0), (11, 1, 0, .iconst 1, 0, 0, 0, 99, 0), (12, 3, 2, .if_icmp .lt 8, 0, 0, 0, 99, 0), (15, 1, 0, .iload_n 2, 0, 0, 0, 99, 0), (16, 1, 0, .iconst 5, 0, 0, 0, 99, 0), (17, 3, 2, .if_icmp .le 5, 0, 0, 0, 99, 0), (20, 1, 0, .iconst (-1), 0, 0, 0, 99, 0), (21, 1, 2, .ireturn, 0, 0, 0, 99, 0), (22, 1, 0, .aload_n 0, 0, 0, 0, 99, 0), (23, 3, 3, .getfield 40, 7, 5, 1, 2, 62), (26, 1, 0, .iload_n 1, 0, 0, 0, 99, 0), (27, 1, 3, .aaload, 14, 0, 0, 99, 0), (28, 1, 0, .astore_n 3, 0, 0, 0, 99, 0), (29, 1, 0, .aload_n 3, 0, 0, 0, 99, 0), (30, 3, 3, .getfield 124, 4, 0, 0, 1, 87), (33, 3, 2, .ifCond .ne 9, 0, 0, 0, 99, 0), (36, 1, 0, .aload_n 0, 0, 0, 0, 99, 0), (37, 1, 0, .iconst 1, 0, 0, 0, 99, 0), (38, 3, 4, .invokevirtual 81, 126, 2, 0, 2, 108), (41, 1, 2, .ireturn, 0, 0, 0, 99, 0), (42, 1, 0, .aload_n 3, 0, 0, 0, 99, 0), (43, 1, 0, .iload_n 2, 0, 0, 0, 99, 0), (44, 3, 4, .invokevirtual 203, 59, 2, 0, 3, 166), (47, 3, 2, .ifCond .ne 9, 0, 0, 0, 99, 0), (50, 1, 0, .aload_n 0, 0, 0, 0, 99, 0), (51, 1, 0, .iconst 3, 0, 0, 0, 99, 0), (52, 3, 4, .invokevirtual 81, 126, 2, 0, 2, 108), (55, 1, 2, .ireturn, 0, 0, 0, 99, 0), (56, 1, 0, .aload_n 3, 0, 0, 0, 99, 0), (57, 3, 4, .invokevirtual 206, 58, 1, 0, 3, 170), (60, 3, 2, .ifCond .ne 5, 0, 0, 0, 99, 0), (63, 1, 0, .iload_n 2, 0, 0, 0, 99, 0), (64, 1, 2, .ireturn, 0, 0, 0, 99, 0), (65, 1, 0, .aload_n 0, 0, 0, 0, 99, 0), (66, 3, 3, .getfield 70, 7, 10, 1, 2, 67), (69, 3, 3, .getfield 200, 0, 2, 0, 1, 201), (72, 1, 0, .iconst 1, 0, 0, 0, 99, 0), (73, 3, 2, .if_icmp .ge 6, 0, 0, 0, 99, 0), (76, 2, 0, .bipush (-9), 0, 0, 0, 99, 0), (78, 1, 2, .ireturn, 0, 0, 0, 99, 0), (79, 1, 0, .aload_n 3, 0, 0, 0, 99, 0), (80, 3, 3, .getfield 197, 4, 1, 1, 1, 90), (83, 1, 0, .iload_n 2, 0, 0, 0, 99, 0), (84, 1, 0, .iconst 2, 0, 0, 0, 99, 0), (85, 3, 2, .if_icmp .ne 15, 0, 0, 0, 99, 0), (88, 1, 0, .aload_n 0, 0, 0, 0, 99, 0), (89, 3, 3, .getfield 70, 7, 10, 1, 2, 67), (92, 3, 3, .getfield 200, 0, 2, 0, 1, 201), (95, 1, 0, .iconst 1, 0, 0, 0, 99, 0), (96, 1, 1, .isub, 0, 0, 0, 99, 0), (97, 3, 2, .goto 4, 0, 0, 0, 99, 0), (100, 1, 0, .iconst 0, 0, 0, 0, 99, 0), (101, 1, 3, .iaload, 0, 0, 0, 99, 0), (102, 1, 2, .ireturn, 0, 0, 0, 99, 0)]
def pgX7_run : List (Nat × Nat × z_En) := [(0, 1, 0, .iload_n 1, 0, 0, 0, 99, 0), (1, 3, 2, .ifCond .lt 9, 0, 0, 0, 99, 0), (4, 1, 0, .iload_n 1, 0, 0, 0, 99, 0), (5, 2, 0, .bipush 6, 0, 0, 0, 99, 0), (7, 3, 2, .if_icmp .lt 5, 0, 0, 0, 99, 0), (10, 1, 0, .iconst (-1), 0, 0, 0, 99, 0), (11, 1, 2, .ireturn, 0, 0, 0, 99, 0), (12, 1, 0, .aload_n 0, 0, 0, 0, 99, 0), (13, 3, 3, .getfield 40, 7, 5, 1, 2, 58), (16, 1, 0, .iload_n 1, 0, 0, 0, 99, 0), (17, 1, 3, .aaload, 14, 0, 0, 99, 0), (18, 3, 3, .getfield 124, 4, 0, 0, 1, 86), (21, 3, 2, .ifCond .ne 9, 0, 0, 0, 99, 0), (24, 1, 0, .aload_n 0, 0, 0, 0, 99, 0), (25, 1, 0, .iconst 1, 0, 0, 0, 99, 0), (26, 3, 4, .invokevirtual 81, 126, 2, 0, 2, 199), (29, 1, 2, .ireturn, 0, 0, 0, 99, 0), (30, 1, 0, .aload_n 0, 0, 0, 0, 99, 0), (31, 3, 3, .getfield 52, 7, 7, 1, 2, 60), (34, 1, 0, .aload_n 0, 0, 0, 0, 99, 0), (35, 3, 3, .getfield 70, 7, 10, 1, 2, 63), (38, 1, 0, .aload_n 0, 0, 0, 0, 99, 0), (39, 3, 3, .getfield 40, 7, 5, 1, 2, 58), (42, 1, 0, .iload_n 1, 0, 0, 0, 99, 0), (43, 1, 3, .aaload, 14, 0, 0, 99, 0), (44, 1, 0, .aload_n 0, 0, 0, 0, 99, 0), (45, 3, 3, .getfield 31, 7, 3, 1, 2, 56), (48, 3, 4, .invokevirtual 210, 45, 4, 0, 2, 222), (51, 1, 0, .aload_n 0, 0, 0, 0, 99, 0), (52, 3, 3, .getfield 31, 7, 3, 1, 2, 56), (55, 1, 0, .aload_n 0, 0, 0, 0, 99, 0), (56, 3, 3, .getfield 70, 7, 10, 1, 2, 63), (59, 3, 4, .invokevirtual 173, 38, 2, 0, 2, 159), (62, 1, 2, .ireturn, 0, 0, 0, 99, 0)]
def pgX7_best : List (Nat × Nat × z_En) := [(0, 1, 0, .aload_n 0, 0, 0, 0, 99, 0), (1, 3, 3, .getfield 14, 7, 0, 1, 2, 53), (4, 1, 0, .iload_n 1, 0, 0, 0, 99, 0), (5, 3, 4, .invokevirtual 77, 79, 2, 0, 2, 180), (8, 3, 2, .ifCond .ne 5, 0, 0, 0, 99, 0), (11, 1, 0, .iconst (-1), 0, 0, 0, 99, 0), (12, 1, 2, .ireturn, 0, 0, 0, 99, 0), (13, 1, 0, .aload_n 0, 0, 0, 0, 99, 0), (14, 3, 3, .getfield 70, 7, 10, 1, 2, 63), (17, 3, 3, .getfield 200, 0, 2, 0, 1, 199), (20, 2, 0, .bipush 6, 0, 0, 0, 99, 0), (22, 3, 2, .if_icmp .le 6, 0, 0, 0, 99, 0), (25, 2, 0, .bipush (-6), 0, 0, 0, 99, 0), (27, 1, 2, .ireturn, 0, 0, 0, 99, 0), (28, 1, 0, .aload_n 0, 0, 0, 0, 99, 0), (29, 3, 3, .getfield 70, 7, 10, 1, 2, 63), (32, 3, 3, .getfield 200, 0, 2, 0, 1, 199), (35, 1, 0, .istore_n 2, 0, 0, 0, 99, 0), (36, 1, 0, .aload_n 0, 0, 0, 0, 99, 0), (37, 3, 3, .getfield 45, 7, 6, 1, 2, 59), (40, 1, 0, .iload_n 2, 0, 0, 0, 99, 0), (41, 3, 4, .invokevirtual 214, 60, 2, 0, 3, 43), (44, 1, 0, .aload_n 0, 0, 0, 0, 99, 0), (45, 3, 3, .getfield 14, 7, 0, 1, 2, 53), (48, 1, 0, .iload_n 1, 0, 0, 0, 99, 0), (49, 1, 0, .iload_n 2, 0, 0, 0, 99, 0), (50, 1, 0, .iconst 0, 0, 0, 0, 99, 0), (51, 3, 4, .invokevirtual 85, 83, 4, 0, 2, 184), (54, 2, 0, .ldc 218, 1000000, 0, 0, 3, 47), (56, 1, 0, .istore_n 3, 0, 0, 0, 99, 0), (57, 1, 0, .iconst 0, 0, 0, 0, 99, 0), (58, 2, 0, .istore 4, 0, 0, 0, 99, 0), (60, 2, 0, .iload 4, 0, 0, 0, 99, 0), (62, 3, 0, .sipush 720, 0, 0, 0, 99, 0), (65, 3, 2, .if_icmp .ge 90, 0, 0, 0, 99, 0), (68, 1, 0, .iload_n 3, 0, 0, 0, 99, 0), (69, 3, 2, .ifCond .le 86, 0, 0, 0, 99, 0), (72, 1, 0, .aload_n 0, 0, 0, 0, 99, 0), (73, 3, 3, .getfield 52, 7, 7, 1, 2, 60), (76, 1, 0, .aload_n 0, 0, 0, 0, 99, 0), (77, 3, 3, .getfield 70, 7, 10, 1, 2, 63), (80, 1, 0, .aload_n 0, 0, 0, 0, 99, 0), (81, 3, 3, .getfield 45, 7, 6, 1, 2, 59), (84, 1, 0, .aload_n 0, 0, 0, 0, 99, 0), (85, 3, 3, .getfield 35, 7, 4, 1, 2, 57), (88, 3, 4, .invokevirtual 210, 45, 4, 0, 2, 222), (91, 1, 0, .aload_n 0, 0, 0, 0, 99, 0), (92, 3, 3, .getfield 35, 7, 4, 1, 2, 57), (95, 1, 0, .aload_n 0, 0, 0, 0, 99, 0), (96, 3, 3, .getfield 70, 7, 10, 1, 2, 63), (99, 3, 4, .invokevirtual 173, 38, 2, 0, 2, 159), (102, 2, 0, .istore 5, 0, 0, 0, 99, 0), (104, 2, 0, .iload 5, 0, 0, 0, 99, 0), (106, 1, 0, .iload_n 3, 0, 0, 0, 99, 0), (107, 3, 2, .if_icmp .ge 28, 0, 0, 0, 99, 0), (110, 2, 0, .iload 5, 0, 0, 0, 99, 0), (112, 1, 0, .istore_n 3, 0, 0, 0, 99, 0), (113, 1, 0, .aload_n 0, 0, 0, 0, 99, 0), (114, 3, 3, .getfield 45, 7, 6, 1, 2, 59), (117, 3, 3, .getfield 197, 4, 1, 1, 1, 89), (120, 1, 0, .iconst 0, 0, 0, 0, 99, 0), (121, 1, 0, .aload_n 0, 0, 0, 0, 99, 0), (122, 3, 3, .getfield 14, 7, 0, 1, 2, 53), (125, 3, 3, .getfield 93, 6, 0, 1, 1, 28), (128, 1, 0, .iload_n 1, 0, 0, 0, 99, 0), (129, 1, 3, .aaload, 15, 0, 0, 99, 0), (130, 1, 0, .iconst 0, 0, 0, 0, 99, 0), (131, 1, 0, .iload_n 2, 0, 0, 0, 99, 0), (132, 3, 4, .invokestatic 111, 0, 0, 12, 2, 188), (135, 1, 0, .aload_n 0, 0, 0, 0, 99, 0), (136, 3, 3, .getfield 45, 7, 6, 1, 2, 59), (139, 1, 0, .iload_n 2, 0, 0, 0, 99, 0), (140, 3, 4, .invokevirtual 219, 61, 2, 0, 3, 48), (143, 3, 2, .ifCond .ne 6, 0, 0, 0, 99, 0), (146, 3, 2, .goto 9, 0, 0, 0, 99, 0), (149, 3, 0, .iinc 4 1, 0, 0, 0, 99, 0), (152, 3, 2, .goto (-92), 0, 0, 0, 99, 0), (155, 1, 0, .iload_n 3, 0, 0, 0, 99, 0), (156, 1, 2, .ireturn, 0, 0, 0, 99, 0)]
def pgX7_least : List (Nat × Nat × z_En) := [(0, 1, 0, .aload_n 0, 0, 0, 0, 99, 0), (1, 3, 3, .getfield 70, 7, 10, 1, 2, 63), (4, 3, 3, .getfield 127, 0, 3, 0, 1, 205), (7, 2, 0, .bipush 8, 0, 0, 0, 99, 0), (9, 3, 2, .if_icmp .le 6, 0, 0, 0, 99, 0), (12, 2, 0, .bipush (-6), 0, 0, 0, 99, 0), (14, 1, 2, .ireturn, 0, 0, 0, 99, 0), (15, 1, 0, .aload_n 0, 0, 0, 0, 99, 0), (16, 1, 0, .iconst 0, 0, 0, 0, 99, 0), (17, 3, 4, .invokevirtual 222, 131, 2, 0, 3, 61), (20, 1, 0, .istore_n 1, 0, 0, 0, 99, 0), (21, 1, 0, .aload_n 0, 0, 0, 0, 99, 0), (22, 3, 3, .getfield 31, 7, 3, 1, 2, 56), (25, 1, 0, .aload_n 0, 0, 0, 0, 99, 0), (26, 3, 3, .getfield 59, 7, 8, 1, 2, 61), (29, 3, 3, .getfield 225, 5, 1, 1, 1, 133), (32, 1, 0, .aload_n 0, 0, 0, 0, 99, 0), (33, 3, 3, .getfield 70, 7, 10, 1, 2, 63), (36, 3, 3, .getfield 127, 0, 3, 0, 1, 205), (39, 3, 4, .invokevirtual 190, 33, 3, 0, 2, 206), (42, 1, 0, .iload_n 1, 0, 0, 0, 99, 0), (43, 1, 2, .ireturn, 0, 0, 0, 99, 0)]
def pgX7_mend : List (Nat × Nat × z_En) := [(0, 1, 0, .iload_n 1, 0, 0, 0, 99, 0), (1, 3, 2, .ifCond .lt 9, 0, 0, 0, 99, 0), (4, 1, 0, .iload_n 1, 0, 0, 0, 99, 0), (5, 2, 0, .bipush 59, 0, 0, 0, 99, 0), (7, 3, 2, .if_icmp .le 5, 0, 0, 0, 99, 0), (10, 1, 0, .iconst (-1), 0, 0, 0, 99, 0), (11, 1, 2, .ireturn, 0, 0, 0, 99, 0), (12, 1, 0, .aload_n 0, 0, 0, 0, 99, 0), (13, 3, 3, .getfield 31, 7, 3, 1, 2, 56), (16, 1, 0, .aload_n 0, 0, 0, 0, 99, 0), (17, 3, 3, .getfield 70, 7, 10, 1, 2, 63), (20, 3, 4, .invokevirtual 169, 40, 2, 0, 2, 116), (23, 2, 0, .bipush (-9), 0, 0, 0, 99, 0), (25, 3, 2, .if_icmp .eq 6, 0, 0, 0, 99, 0), (28, 2, 0, .bipush (-4), 0, 0, 0, 99, 0), (30, 1, 2, .ireturn, 0, 0, 0, 99, 0), (31, 1, 0, .aload_n 0, 0, 0, 0, 99, 0), (32, 3, 3, .getfield 70, 7, 10, 1, 2, 63), (35, 3, 3, .getfield 127, 0, 3, 0, 1, 205), (38, 1, 0, .aload_n 0, 0, 0, 0, 99, 0), (39, 3, 3, .getfield 31, 7, 3, 1, 2, 56), (42, 1, 0, .aload_n 0, 0, 0, 0, 99, 0), (43, 3, 3, .getfield 70, 7, 10, 1, 2, 63), (46, 1, 0, .iload_n 1, 0, 0, 0, 99, 0), (47, 3, 4, .invokevirtual 228, 35, 3, 0, 3, 125), (50, 1, 1, .isub, 0, 0, 0, 99, 0), (51, 2, 0, .bipush 8, 0, 0, 0, 99, 0), (53, 3, 2, .if_icmp .le 6, 0, 0, 0, 99, 0), (56, 2, 0, .bipush (-6), 0, 0, 0, 99, 0), (58, 1, 2, .ireturn, 0, 0, 0, 99, 0), (59, 1, 0, .aload_n 0, 0, 0, 0, 99, 0), (60, 3, 3, .getfield 59, 7, 8, 1, 2, 61), (63, 1, 0, .aload_n 0, 0, 0, 0, 99, 0), (64, 3, 3, .getfield 70, 7, 10, 1, 2, 63), (67, 1, 0, .iload_n 1, 0, 0, 0, 99, 0), (68, 1, 0, .iconst 1, 0, 0, 0, 99, 0), (69, 3, 4, .invokevirtual 231, 64, 4, 0, 3, 65), (72, 1, 0, .aload_n 0, 0, 0, 0, 99, 0), (73, 1, 0, .iload_n 1, 0, 0, 0, 99, 0), (74, 3, 4, .invokevirtual 235, 133, 2, 0, 3, 133), (77, 1, 0, .iconst 0, 0, 0, 0, 99, 0), (78, 1, 0, .istore_n 2, 0, 0, 0, 99, 0), (79, 1, 0, .iload_n 2, 0, 0, 0, 99, 0), (80, 1, 0, .aload_n 0, 0, 0, 0, 99, 0), (81, 3, 3, .getfield 70, 7, 10, 1, 2, 63), (84, 3, 3, .getfield 127, 0, 3, 0, 1, 205), (87, 3, 2, .if_icmp .ge 29, 0, 0, 0, 99, 0), (90, 1, 0, .aload_n 0, 0, 0, 0, 99, 0), (91, 3, 3, .getfield 31, 7, 3, 1, 2, 56), (94, 1, 0, .iload_n 2, 0, 0, 0, 99, 0), (95, 1, 0, .iload_n 1, 0, 0, 0, 99, 0), (96, 3, 4, .invokevirtual 238, 34, 3, 0, 3, 141), (99, 3, 2, .ifCond .ne 11, 0, 0, 0, 99, 0), (102, 1, 0, .aload_n 0, 0, 0, 0, 99, 0), (103, 3, 3, .getfield 59, 7, 8, 1, 2, 61), (106, 1, 0, .iload_n 2, 0, 0, 0, 99, 0), (107, 3, 4, .invokevirtual 242, 66, 2, 0, 3, 69), (110, 3, 0, .iinc 2 1, 0, 0, 0, 99, 0), (113, 3, 2, .goto (-34), 0, 0, 0, 99, 0), (116, 1, 0, .aload_n 0, 0, 0, 0, 99, 0), (117, 3, 3, .getfield 59, 7, 8, 1, 2, 61), (120, 1, 0, .iconst 0, 0, 0, 0, 99, 0), (121, 3, 4, .invokevirtual 245, 67, 2, 0, 3, 77), (124, 1, 0, .istore_n 2, 0, 0, 0, 99, 0), (125, 1, 0, .aload_n 0, 0, 0, 0, 99, 0), (126, 3, 3, .getfield 31, 7, 3, 1, 2, 56), (129, 1, 0, .aload_n 0, 0, 0, 0, 99, 0), (130, 3, 3, .getfield 59, 7, 8, 1, 2, 61), (133, 3, 3, .getfield 225, 5, 1, 1, 1, 133), (136, 1, 0, .aload_n 0, 0, 0, 0, 99, 0), (137, 3, 3, .getfield 70, 7, 10, 1, 2, 63), (140, 3, 3, .getfield 127, 0, 3, 0, 1, 205), (143, 3, 4, .invokevirtual 190, 33, 3, 0, 2, 206), (146, 1, 0, .iload_n 2, 0, 0, 0, 99, 0), (147, 1, 2, .ireturn, 0, 0, 0, 99, 0)]
def pgX7_soon : List (Nat × Nat × z_En) := [(0, 1, 0, .aload_n 0, 0, 0, 0, 99, 0), (1, 3, 3, .getfield 70, 7, 10, 1, 2, 63), (4, 3, 3, .getfield 127, 0, 3, 0, 1, 205), (7, 2, 0, .bipush 8, 0, 0, 0, 99, 0), (9, 3, 2, .if_icmp .le 6, 0, 0, 0, 99, 0), (12, 2, 0, .bipush (-6), 0, 0, 0, 99, 0), (14, 1, 2, .ireturn, 0, 0, 0, 99, 0), (15, 1, 0, .aload_n 0, 0, 0, 0, 99, 0), (16, 1, 0, .iconst 2, 0, 0, 0, 99, 0), (17, 3, 4, .invokevirtual 222, 131, 2, 0, 3, 61), (20, 1, 0, .istore_n 1, 0, 0, 0, 99, 0), (21, 1, 0, .iload_n 1, 0, 0, 0, 99, 0), (22, 2, 0, .ldc 218, 1000000, 0, 0, 3, 47), (24, 3, 2, .if_icmp .ne 8, 0, 0, 0, 99, 0), (27, 2, 0, .bipush (-9), 0, 0, 0, 99, 0), (29, 3, 2, .goto 4, 0, 0, 0, 99, 0), (32, 1, 0, .iload_n 1, 0, 0, 0, 99, 0), (33, 1, 2, .ireturn, 0, 0, 0, 99, 0)]
def pgX7_even : List (Nat × Nat × z_En) := [(0, 1, 0, .aload_n 0, 0, 0, 0, 99, 0), (1, 3, 3, .getfield 70, 7, 10, 1, 2, 63), (4, 3, 3, .getfield 127, 0, 3, 0, 1, 205), (7, 2, 0, .bipush 8, 0, 0, 0, 99, 0), (9, 3, 2, .if_icmp .le 6, 0, 0, 0, 99, 0), (12, 2, 0, .bipush (-6), 0, 0, 0, 99, 0), (14, 1, 2, .ireturn, 0, 0, 0, 99, 0), (15, 1, 0, .aload_n 0, 0, 0, 0, 99, 0), (16, 1, 0, .iconst 1, 0, 0, 0, 99, 0), (17, 3, 4, .invokevirtual 222, 131, 2, 0, 3, 61), (20, 1, 0, .istore_n 1, 0, 0, 0, 99, 0), (21, 1, 0, .aload_n 0, 0, 0, 0, 99, 0), (22, 1, 0, .aload_n 0, 0, 0, 0, 99, 0), (23, 3, 3, .getfield 59, 7, 8, 1, 2, 61), (26, 3, 3, .getfield 247, 5, 0, 0, 1, 131), (29, 3, 3, .putfield 97, 7, 13, 0, 2, 66), (32, 1, 0, .iload_n 1, 0, 0, 0, 99, 0), (33, 1, 2, .ireturn, 0, 0, 0, 99, 0)]
def pgX7_bound : List (Nat × Nat × z_En) := [(0, 1, 0, .iconst 0, 0, 0, 0, 99, 0), (1, 1, 0, .istore_n 1, 0, 0, 0, 99, 0), (2, 1, 0, .iconst 0, 0, 0, 0, 99, 0), (3, 1, 0, .istore_n 2, 0, 0, 0, 99, 0), (4, 1, 0, .iload_n 2, 0, 0, 0, 99, 0), (5, 1, 0, .aload_n 0, 0, 0, 0, 99, 0), (6, 3, 3, .getfield 70, 7, 10, 1, 2, 63), (9, 3, 3, .getfield 250, 0, 1, 0, 1, 195), (12, 3, 2, .if_icmp .ge 73, 0, 0, 0, 99, 0), (15, 1, 0, .aload_n 0, 0, 0, 0, 99, 0), (16, 3, 3, .getfield 59, 7, 8, 1, 2, 61), (19, 1, 0, .aload_n 0, 0, 0, 0, 99, 0), (20, 3, 3, .getfield 70, 7, 10, 1, 2, 63), (23, 1, 0, .iconst 0, 0, 0, 0, 99, 0), (24, 1, 0, .iconst 0, 0, 0, 0, 99, 0), (25, 3, 4, .invokevirtual 231, 64, 4, 0, 3, 65), (28, 1, 0, .iconst 0, 0, 0, 0, 99, 0), (29, 1, 0, .istore_n 3, 0, 0, 0, 99, 0), (30, 1, 0, .iload_n 3, 0, 0, 0, 99, 0), (31, 1, 0, .aload_n 0, 0, 0, 0, 99, 0), (32, 3, 3, .getfield 70, 7, 10, 1, 2, 63), (35, 3, 3, .getfield 127, 0, 3, 0, 1, 205), (38, 3, 2, .if_icmp .ge 30, 0, 0, 0, 99, 0), (41, 1, 0, .aload_n 0, 0, 0, 0, 99, 0), (42, 3, 3, .getfield 70, 7, 10, 1, 2, 63), (45, 3, 3, .getfield 180, 0, 13, 1, 1, 237), (48, 1, 0, .iload_n 3, 0, 0, 0, 99, 0), (49, 1, 3, .iaload, 0, 0, 0, 99, 0), (50, 1, 0, .iload_n 2, 0, 0, 0, 99, 0), (51, 3, 2, .if_icmp .ne 11, 0, 0, 0, 99, 0), (54, 1, 0, .aload_n 0, 0, 0, 0, 99, 0), (55, 3, 3, .getfield 59, 7, 8, 1, 2, 61), (58, 1, 0, .iload_n 3, 0, 0, 0, 99, 0), (59, 3, 4, .invokevirtual 242, 66, 2, 0, 3, 69), (62, 3, 0, .iinc 3 1, 0, 0, 0, 99, 0), (65, 3, 2, .goto (-35), 0, 0, 0, 99, 0), (68, 1, 0, .iload_n 1, 0, 0, 0, 99, 0), (69, 1, 0, .aload_n 0, 0, 0, 0, 99, 0), (70, 3, 3, .getfield 59, 7, 8, 1, 2, 61), (73, 1, 0, .iconst 0, 0, 0, 0, 99, 0), (74, 3, 4, .invokevirtual 245, 67, 2, 0, 3, 77), (77, 1, 1, .iadd, 0, 0, 0, 99, 0), (78, 1, 0, .istore_n 1, 0, 0, 0, 99, 0), (79, 3, 0, .iinc 2 1, 0, 0, 0, 99, 0), (82, 3, 2, .goto (-78), 0, 0, 0, 99, 0), (85, 1, 0, .iload_n 1, 0, 0, 0, 99, 0), (86, 1, 2, .ireturn, 0, 0, 0, 99, 0)]
def pgX7_quarrel : List (Nat × Nat × z_En) := [(0, 1, 0, .aload_n 0, 0, 0, 0, 99, 0), (1, 3, 3, .getfield 70, 7, 10, 1, 2, 63), (4, 3, 3, .getfield 127, 0, 3, 0, 1, 205), (7, 2, 0, .bipush 8, 0, 0, 0, 99, 0), (9, 3, 2, .if_icmp .le 6, 0, 0, 0, 99, 0), (12, 2, 0, .bipush (-6), 0, 0, 0, 99, 0), (14, 1, 2, .ireturn, 0, 0, 0, 99, 0), (15, 1, 0, .iconst 1, 0, 0, 0, 99, 0), (16, 1, 0, .aload_n 0, 0, 0, 0, 99, 0), (17, 3, 3, .getfield 70, 7, 10, 1, 2, 63), (20, 3, 3, .getfield 200, 0, 2, 0, 1, 199), (23, 1, 1, .ishl, 0, 0, 0, 99, 0), (24, 1, 0, .iconst 1, 0, 0, 0, 99, 0), (25, 1, 1, .isub, 0, 0, 0, 99, 0), (26, 1, 0, .istore_n 1, 0, 0, 0, 99, 0), (27, 1, 0, .aload_n 0, 0, 0, 0, 99, 0), (28, 1, 0, .iload_n 1, 0, 0, 0, 99, 0), (29, 3, 4, .invokevirtual 253, 132, 2, 0, 3, 158), (32, 3, 2, .ifCond .eq 6, 0, 0, 0, 99, 0), (35, 2, 0, .bipush (-9), 0, 0, 0, 99, 0), (37, 1, 2, .ireturn, 0, 0, 0, 99, 0), (38, 1, 0, .iconst 0, 0, 0, 0, 99, 0), (39, 1, 0, .istore_n 2, 0, 0, 0, 99, 0), (40, 1, 0, .iload_n 2, 0, 0, 0, 99, 0), (41, 1, 0, .aload_n 0, 0, 0, 0, 99, 0), (42, 3, 3, .getfield 70, 7, 10, 1, 2, 63), (45, 3, 3, .getfield 200, 0, 2, 0, 1, 199), (48, 3, 2, .if_icmp .ge 27, 0, 0, 0, 99, 0), (51, 1, 0, .iload_n 1, 0, 0, 0, 99, 0), (52, 1, 0, .iconst 1, 0, 0, 0, 99, 0), (53, 1, 0, .iload_n 2, 0, 0, 0, 99, 0), (54, 1, 1, .ishl, 0, 0, 0, 99, 0), (55, 1, 0, .iconst (-1), 0, 0, 0, 99, 0), (56, 1, 1, .ixor, 0, 0, 0, 99, 0), (57, 1, 1, .iand, 0, 0, 0, 99, 0), (58, 1, 0, .istore_n 3, 0, 0, 0, 99, 0), (59, 1, 0, .aload_n 0, 0, 0, 0, 99, 0), (60, 1, 0, .iload_n 3, 0, 0, 0, 99, 0), (61, 3, 4, .invokevirtual 253, 132, 2, 0, 3, 158), (64, 3, 2, .ifCond .ne 5, 0, 0, 0, 99, 0), (67, 1, 0, .iload_n 3, 0, 0, 0, 99, 0), (68, 1, 0, .istore_n 1, 0, 0, 0, 99, 0), (69, 3, 0, .iinc 2 1, 0, 0, 0, 99, 0), (72, 3, 2, .goto (-32), 0, 0, 0, 99, 0), (75, 1, 0, .iload_n 1, 0, 0, 0, 99, 0), (76, 1, 2, .ireturn, 0, 0, 0, 99, 0)]
def pgX7_twice : List (Nat × Nat × z_En) := [(0, 1, 0, .aload_n 0, 0, 0, 0, 99, 0), (1, 3, 3, .getfield 70, 7, 10, 1, 2, 67), (4, 3, 3, .getfield 127, 0, 3, 0, 1, 207), (7, 2, 0, .bipush 8, 0, 0, 0, 99, 0), (9, 3, 2, .if_icmp .le 6, 0, 0, 0, 99, 0), (12, 2, 0, .bipush (-6), 0, 0, 0, 99, 0), (14, 1, 2, .ireturn, 0, 0, 0, 99, 0), (15, 2, 0, .bipush (-9), 0, 0, 0, 99, 0), (17, 1, 0, .istore_n 1, 0, 0, 0, 99, 0), (18, 2, 0, .ldc 218, 1000000, 0, 0, 4, 0), (20, 1, 0, .istore_n 2, 0, 0, 0, 99, 0), (21, 1, 0, .iconst 0, 0, 0, 0, 99, 0), (22, 1, 0, .istore_n 3, 0, 0, 0, 99, 0), (23, 1, 0, .iload_n 3, 0, 0, 0, 99, 0), (24, 1, 0, .aload_n 0, 0, 0, 0, 99, 0), (25, 3, 3, .getfield 70, 7, 10, 1, 2, 67), (28, 3, 3, .getfield 250, 0, 1, 0, 1, 197), (31, 3, 2, .if_icmp .ge 60, 0, 0, 0, 99, 0), (34, 1, 0, .aload_n 0, 0, 0, 0, 99, 0), (35, 3, 3, .getfield 70, 7, 10, 1, 2, 67), (38, 3, 3, .getfield 148, 0, 4, 1, 1, 212), (41, 1, 0, .iload_n 3, 0, 0, 0, 99, 0), (42, 1, 3, .iaload, 0, 0, 0, 99, 0), (43, 1, 0, .iconst 1, 0, 0, 0, 99, 0), (44, 3, 2, .if_icmp .ne 41, 0, 0, 0, 99, 0), (47, 1, 0, .aload_n 0, 0, 0, 0, 99, 0), (48, 3, 3, .getfield 70, 7, 10, 1, 2, 67), (51, 3, 3, .getfield 148, 0, 4, 1, 1, 212), (54, 1, 0, .iload_n 3, 0, 0, 0, 99, 0), (55, 1, 0, .iconst 2, 0, 0, 0, 99, 0), (56, 1, 3, .iastore, 0, 0, 0, 99, 0), (57, 1, 0, .aload_n 0, 0, 0, 0, 99, 0), (58, 1, 0, .iconst 0, 0, 0, 0, 99, 0), (59, 3, 4, .invokevirtual 222, 131, 2, 0, 4, 14), (62, 2, 0, .istore 4, 0, 0, 0, 99, 0), (64, 1, 0, .aload_n 0, 0, 0, 0, 99, 0), (65, 3, 3, .getfield 70, 7, 10, 1, 2, 67), (68, 3, 3, .getfield 148, 0, 4, 1, 1, 212), (71, 1, 0, .iload_n 3, 0, 0, 0, 99, 0), (72, 1, 0, .iconst 1, 0, 0, 0, 99, 0), (73, 1, 3, .iastore, 0, 0, 0, 99, 0), (74, 2, 0, .iload 4, 0, 0, 0, 99, 0), (76, 1, 0, .iload_n 2, 0, 0, 0, 99, 0), (77, 3, 2, .if_icmp .ge 8, 0, 0, 0, 99, 0), (80, 2, 0, .iload 4, 0, 0, 0, 99, 0), (82, 1, 0, .istore_n 2, 0, 0, 0, 99, 0), (83, 1, 0, .iload_n 3, 0, 0, 0, 99, 0), (84, 1, 0, .istore_n 1, 0, 0, 0, 99, 0), (85, 3, 0, .iinc 3 1, 0, 0, 0, 99, 0), (88, 3, 2, .goto (-65), 0, 0, 0, 99, 0), (91, 1, 0, .iload_n 1, 0, 0, 0, 99, 0), (92, 2, 0, .bipush (-9), 0, 0, 0, 99, 0), (94, 3, 2, .if_icmp .eq 8, 0, 0, 0, 99, 0), (97, 1, 0, .aload_n 0, 0, 0, 0, 99, 0), (98, 1, 0, .iload_n 2, 0, 0, 0, 99, 0), (99, 3, 3, .putfield 97, 7, 13, 0, 2, 70), (102, 1, 0, .iload_n 1, 0, 0, 0, 99, 0), (103, 1, 2, .ireturn, 0, 0, 0, 99, 0)]
def pgX7_asked : List (Nat × Nat × z_En) := [(0, 1, 0, .aload_n 0, 0, 0, 0, 99, 0), (1, 3, 3, .getfield 97, 7, 13, 0, 2, 66), (4, 1, 2, .ireturn, 0, 0, 0, 99, 0)]
def pgX7_count : List (Nat × Nat × z_En) := [(0, 1, 0, .iload_n 1, 0, 0, 0, 99, 0), (1, 51, 2, .tableswitch 125 0 8 #[51, 59, 67, 75, 83, 97, 103, 109, 117], 0, 0, 0, 99, 0), (52, 1, 0, .aload_n 0, 0, 0, 0, 99, 0), (53, 3, 3, .getfield 70, 7, 10, 1, 2, 67), (56, 3, 3, .getfield 250, 0, 1, 0, 1, 197), (59, 1, 2, .ireturn, 0, 0, 0, 99, 0), (60, 1, 0, .aload_n 0, 0, 0, 0, 99, 0), (61, 3, 3, .getfield 70, 7, 10, 1, 2, 67), (64, 3, 3, .getfield 200, 0, 2, 0, 1, 201), (67, 1, 2, .ireturn, 0, 0, 0, 99, 0), (68, 1, 0, .aload_n 0, 0, 0, 0, 99, 0), (69, 3, 3, .getfield 70, 7, 10, 1, 2, 67), (72, 3, 3, .getfield 127, 0, 3, 0, 1, 207), (75, 1, 2, .ireturn, 0, 0, 0, 99, 0), (76, 1, 0, .aload_n 0, 0, 0, 0, 99, 0), (77, 3, 3, .getfield 70, 7, 10, 1, 2, 67), (80, 3, 3, .getfield 256, 0, 0, 0, 1, 194), (83, 1, 2, .ireturn, 0, 0, 0, 99, 0), (84, 1, 0, .aload_n 0, 0, 0, 0, 99, 0), (85, 3, 3, .getfield 31, 7, 3, 1, 2, 60), (88, 1, 0, .aload_n 0, 0, 0, 0, 99, 0), (89, 3, 3, .getfield 70, 7, 10, 1, 2, 67), (92, 2, 0, .bipush 60, 0, 0, 0, 99, 0), (94, 3, 4, .invokevirtual 228, 35, 3, 0, 4, 78), (97, 1, 2, .ireturn, 0, 0, 0, 99, 0), (98, 1, 0, .aload_n 0, 0, 0, 0, 99, 0), (99, 1, 0, .iconst 0, 0, 0, 0, 99, 0), (100, 3, 4, .invokevirtual 259, 130, 2, 0, 4, 127), (103, 1, 2, .ireturn, 0, 0, 0, 99, 0), (104, 1, 0, .aload_n 0, 0, 0, 0, 99, 0), (105, 1, 0, .iconst 1, 0, 0, 0, 99, 0), (106, 3, 4, .invokevirtual 259, 130, 2, 0, 4, 127), (109, 1, 2, .ireturn, 0, 0, 0, 99, 0), (110, 1, 0, .aload_n 0, 0, 0, 0, 99, 0), (111, 3, 3, .getfield 14, 7, 0, 1, 2, 57), (114, 3, 4, .invokevirtual 263, 84, 1, 0, 4, 131), (117, 1, 2, .ireturn, 0, 0, 0, 99, 0), (118, 1, 0, .aload_n 0, 0, 0, 0, 99, 0), (119, 3, 3, .getfield 18, 7, 1, 1, 2, 58), (122, 3, 4, .invokevirtual 263, 84, 1, 0, 4, 131), (125, 1, 2, .ireturn, 0, 0, 0, 99, 0), (126, 1, 0, .iconst (-1), 0, 0, 0, 99, 0), (127, 1, 2, .ireturn, 0, 0, 0, 99, 0)]
def pgX7_finding : List (Nat × Nat × z_En) := [(0, 1, 0, .aload_n 0, 0, 0, 0, 99, 0), (1, 3, 3, .getfield 267, 7, 12, 0, 2, 69), (4, 1, 2, .ireturn, 0, 0, 0, 99, 0)]
def pgX7_findings : List (Nat × Nat × z_En) := [(0, 1, 0, .iload_n 1, 0, 0, 0, 99, 0), (1, 1, 0, .iconst 1, 0, 0, 0, 99, 0), (2, 3, 2, .if_icmp .lt 8, 0, 0, 0, 99, 0), (5, 1, 0, .iload_n 1, 0, 0, 0, 99, 0), (6, 1, 0, .iconst 5, 0, 0, 0, 99, 0), (7, 3, 2, .if_icmp .le 5, 0, 0, 0, 99, 0), (10, 1, 0, .iconst (-1), 0, 0, 0, 99, 0), (11, 1, 2, .ireturn, 0, 0, 0, 99, 0), (12, 1, 0, .aload_n 0, 0, 0, 0, 99, 0), (13, 3, 3, .getfield 63, 7, 9, 1, 2, 66), (16, 1, 0, .iload_n 1, 0, 0, 0, 99, 0), (17, 1, 3, .iaload, 0, 0, 0, 99, 0), (18, 1, 2, .ireturn, 0, 0, 0, 99, 0)]
def pgX7_digest : List (Nat × Nat × z_En) := [(0, 3, 0, .ldc2_w 270, 17, 0, 0, 4, 147), (3, 1, 0, .lstore_n 1, 0, 0, 0, 99, 0), (4, 1, 0, .iconst 0, 0, 0, 0, 99, 0), (5, 1, 0, .istore_n 3, 0, 0, 0, 99, 0), (6, 1, 0, .iload_n 3, 0, 0, 0, 99, 0), (7, 2, 0, .bipush 8, 0, 0, 0, 99, 0), (9, 3, 2, .if_icmp .gt 22, 0, 0, 0, 99, 0), (12, 3, 0, .ldc2_w 272, 31, 0, 0, 4, 148), (15, 1, 0, .lload_n 1, 0, 0, 0, 99, 0), (16, 1, 1, .lmul, 0, 0, 0, 99, 0), (17, 1, 0, .aload_n 0, 0, 0, 0, 99, 0), (18, 1, 0, .iload_n 3, 0, 0, 0, 99, 0), (19, 3, 4, .invokevirtual 274, 122, 2, 0, 4, 149), (22, 1, 1, .i2l, 0, 0, 0, 99, 0), (23, 1, 1, .ladd, 0, 0, 0, 99, 0), (24, 1, 0, .lstore_n 1, 0, 0, 0, 99, 0), (25, 3, 0, .iinc 3 1, 0, 0, 0, 99, 0), (28, 3, 2, .goto (-22), 0, 0, 0, 99, 0), (31, 1, 0, .aload_n 0, 0, 0, 0, 99, 0), (32, 1, 0, .lload_n 1, 0, 0, 0, 99, 0), (33, 3, 4, .invokevirtual 277, 134, 2, 0, 4, 150), (36, 1, 0, .lstore_n 1, 0, 0, 0, 99, 0), (37, 1, 0, .iconst 0, 0, 0, 0, 99, 0), (38, 1, 0, .istore_n 3, 0, 0, 0, 99, 0), (39, 1, 0, .iload_n 3, 0, 0, 0, 99, 0), (40, 2, 0, .bipush 6, 0, 0, 0, 99, 0), (42, 3, 2, .if_icmp .ge 95, 0, 0, 0, 99, 0), (45, 3, 0, .ldc2_w 272, 31, 0, 0, 4, 148), (48, 1, 0, .lload_n 1, 0, 0, 0, 99, 0), (49, 1, 1, .lmul, 0, 0, 0, 99, 0), (50, 1, 0, .aload_n 0, 0, 0, 0, 99, 0), (51, 3, 3, .getfield 40, 7, 5, 1, 2, 62), (54, 1, 0, .iload_n 3, 0, 0, 0, 99, 0), (55, 1, 3, .aaload, 14, 0, 0, 99, 0), (56, 3, 3, .getfield 124, 4, 0, 0, 1, 87), (59, 3, 2, .ifCond .ne 7, 0, 0, 0, 99, 0), (62, 1, 0, .iconst (-1), 0, 0, 0, 99, 0), (63, 3, 2, .goto 12, 0, 0, 0, 99, 0), (66, 1, 0, .aload_n 0, 0, 0, 0, 99, 0), (67, 3, 3, .getfield 40, 7, 5, 1, 2, 62), (70, 1, 0, .iload_n 3, 0, 0, 0, 99, 0), (71, 1, 3, .aaload, 14, 0, 0, 99, 0), (72, 3, 3, .getfield 124, 4, 0, 0, 1, 87), (75, 1, 1, .i2l, 0, 0, 0, 99, 0), (76, 1, 1, .ladd, 0, 0, 0, 99, 0), (77, 1, 0, .lstore_n 1, 0, 0, 0, 99, 0), (78, 1, 0, .iconst 0, 0, 0, 0, 99, 0), (79, 2, 0, .istore 4, 0, 0, 0, 99, 0), (81, 1, 0, .aload_n 0, 0, 0, 0, 99, 0), (82, 3, 3, .getfield 40, 7, 5, 1, 2, 62), (85, 1, 0, .iload_n 3, 0, 0, 0, 99, 0), (86, 1, 3, .aaload, 14, 0, 0, 99, 0), (87, 3, 4, .invokevirtual 206, 58, 1, 0, 3, 170), (90, 3, 2, .ifCond .eq 41, 0, 0, 0, 99, 0), (93, 2, 0, .iload 4, 0, 0, 0, 99, 0), (95, 1, 0, .aload_n 0, 0, 0, 0, 99, 0), (96, 3, 3, .getfield 70, 7, 10, 1, 2, 67), (99, 3, 3, .getfield 200, 0, 2, 0, 1, 201), (102, 3, 2, .if_icmp .ge 29, 0, 0, 0, 99, 0), (105, 3, 0, .ldc2_w 272, 31, 0, 0, 4, 148), (108, 1, 0, .lload_n 1, 0, 0, 0, 99, 0), (109, 1, 1, .lmul, 0, 0, 0, 99, 0), (110, 1, 0, .aload_n 0, 0, 0, 0, 99, 0), (111, 3, 3, .getfield 40, 7, 5, 1, 2, 62), (114, 1, 0, .iload_n 3, 0, 0, 0, 99, 0), (115, 1, 3, .aaload, 14, 0, 0, 99, 0), (116, 3, 3, .getfield 197, 4, 1, 1, 1, 90), (119, 2, 0, .iload 4, 0, 0, 0, 99, 0), (121, 1, 3, .iaload, 0, 0, 0, 99, 0), (122, 1, 1, .i2l, 0, 0, 0, 99, 0), (123, 1, 1, .ladd, 0, 0, 0, 99, 0), (124, 1, 0, .lstore_n 1, 0, 0, 0, 99, 0), (125, 3, 0, .iinc 4 1, 0, 0, 0, 99, 0), (128, 3, 2, .goto (-47), 0, 0, 0, 99, 0), (131, 3, 0, .iinc 3 1, 0, 0, 0, 99, 0), (134, 3, 2, .goto (-95), 0, 0, 0, 99, 0), (137, 1, 0, .aload_n 0, 0, 0, 0, 99, 0), (138, 3, 3, .getfield 18, 7, 1, 1, 2, 58), (141, 1, 0, .aload_n 0, 0, 0, 0, 99, 0), (142, 3, 3, .getfield 14, 7, 0, 1, 2, 57), (145, 1, 0, .lload_n 1, 0, 0, 0, 99, 0), (146, 3, 4, .invokevirtual 281, 85, 2, 0, 4, 154), (149, 3, 4, .invokevirtual 281, 85, 2, 0, 4, 154), (152, 1, 2, .lreturn, 0, 0, 0, 99, 0)]
def pgX7_found : List (Nat × Nat × z_En) := [(0, 1, 0, .iload_n 1, 0, 0, 0, 99, 0), (1, 1, 0, .iconst 1, 0, 0, 0, 99, 0), (2, 3, 2, .if_icmp .lt 23, 0, 0, 0, 99, 0), (5, 1, 0, .iload_n 1, 0, 0, 0, 99, 0), (6, 1, 0, .iconst 5, 0, 0, 0, 99, 0), (7, 3, 2, .if_icmp .gt 18, 0, 0, 0, 99, 0), (10, 1, 0, .aload_n 0, 0, 0, 0, 99, 0), (11, 1, 0, .iload_n 1, 0, 0, 0, 99, 0), (12, 3, 3, .putfield 267, 7, 12, 0, 2, 65), (15, 1, 0, .aload_n 0, 0, 0, 0, 99, 0), (16, 3, 3, .getfield 63, 7, 9, 1, 2, 62), (19, 1, 0, .iload_n 1, 0, 0, 0, 99, 0), (20, 1, 0, .dup2, 0, 0, 0, 99, 0), (21, 1, 3, .iaload, 0, 0, 0, 99, 0), (22, 1, 0, .iconst 1, 0, 0, 0, 99, 0), (23, 1, 1, .iadd, 0, 0, 0, 99, 0), (24, 1, 3, .iastore, 0, 0, 0, 99, 0), (25, 2, 0, .bipush (-3), 0, 0, 0, 99, 0), (27, 1, 2, .ireturn, 0, 0, 0, 99, 0)]
def pgX7_isBeginning : List (Nat × Nat × z_En) := [(0, 1, 0, .iload_n 0, 0, 0, 0, 99, 0), (1, 2, 0, .bipush (-9), 0, 0, 0, 99, 0), (3, 3, 2, .if_icmp .eq 13, 0, 0, 0, 99, 0), (6, 1, 0, .iload_n 0, 0, 0, 0, 99, 0), (7, 3, 2, .ifCond .lt 13, 0, 0, 0, 99, 0), (10, 1, 0, .iload_n 0, 0, 0, 0, 99, 0), (11, 2, 0, .bipush 59, 0, 0, 0, 99, 0), (13, 3, 2, .if_icmp .gt 7, 0, 0, 0, 99, 0), (16, 1, 0, .iconst 1, 0, 0, 0, 99, 0), (17, 3, 2, .goto 4, 0, 0, 0, 99, 0), (20, 1, 0, .iconst 0, 0, 0, 0, 99, 0), (21, 1, 2, .ireturn, 0, 0, 3, 99, 0)]
def pgX7_ofWant : List (Nat × Nat × z_En) := [(0, 1, 0, .iload_n 2, 0, 0, 0, 99, 0), (1, 1, 0, .iconst 4, 0, 0, 0, 99, 0), (2, 3, 2, .if_icmp .ne 15, 0, 0, 0, 99, 0), (5, 1, 0, .aload_n 0, 0, 0, 0, 99, 0), (6, 3, 3, .getfield 31, 7, 3, 1, 2, 60), (9, 3, 3, .getfield 166, 2, 0, 1, 1, 74), (12, 1, 0, .iload_n 1, 0, 0, 0, 99, 0), (13, 1, 3, .iaload, 0, 0, 0, 99, 0), (14, 3, 2, .goto 12, 0, 0, 0, 99, 0), (17, 1, 0, .aload_n 0, 0, 0, 0, 99, 0), (18, 3, 3, .getfield 70, 7, 10, 1, 2, 67), (21, 1, 0, .iload_n 1, 0, 0, 0, 99, 0), (22, 1, 0, .iload_n 2, 0, 0, 0, 99, 0), (23, 3, 4, .invokevirtual 284, 7, 3, 0, 3, 46), (26, 1, 2, .ireturn, 0, 0, 0, 99, 0)]
def pgX7_lackOfCard : List (Nat × Nat × z_En) := [(0, 1, 0, .aload_n 0, 0, 0, 0, 99, 0), (1, 3, 3, .getfield 14, 7, 0, 1, 2, 53), (4, 1, 0, .iload_n 1, 0, 0, 0, 99, 0), (5, 3, 4, .invokevirtual 101, 80, 2, 0, 2, 195), (8, 3, 2, .ifCond .eq 5, 0, 0, 0, 99, 0), (11, 1, 0, .iconst 1, 0, 0, 0, 99, 0), (12, 1, 2, .ireturn, 0, 0, 0, 99, 0), (13, 1, 0, .aload_n 0, 0, 0, 0, 99, 0), (14, 3, 3, .getfield 14, 7, 0, 1, 2, 53), (17, 3, 3, .getfield 104, 6, 1, 1, 1, 30), (20, 1, 0, .iload_n 1, 0, 0, 0, 99, 0), (21, 1, 3, .iaload, 0, 0, 0, 99, 0), (22, 1, 0, .aload_n 0, 0, 0, 0, 99, 0), (23, 3, 3, .getfield 70, 7, 10, 1, 2, 63), (26, 3, 3, .getfield 200, 0, 2, 0, 1, 199), (29, 3, 2, .if_icmp .eq 5, 0, 0, 0, 99, 0), (32, 1, 0, .iconst 5, 0, 0, 0, 99, 0), (33, 1, 2, .ireturn, 0, 0, 0, 99, 0), (34, 1, 0, .iconst 0, 0, 0, 0, 99, 0), (35, 1, 0, .istore_n 2, 0, 0, 0, 99, 0), (36, 1, 0, .iconst 0, 0, 0, 0, 99, 0), (37, 1, 0, .istore_n 3, 0, 0, 0, 99, 0), (38, 1, 0, .iload_n 3, 0, 0, 0, 99, 0), (39, 1, 0, .aload_n 0, 0, 0, 0, 99, 0), (40, 3, 3, .getfield 70, 7, 10, 1, 2, 63), (43, 3, 3, .getfield 200, 0, 2, 0, 1, 199), (46, 3, 2, .if_icmp .ge 52, 0, 0, 0, 99, 0), (49, 1, 0, .aload_n 0, 0, 0, 0, 99, 0), (50, 3, 3, .getfield 14, 7, 0, 1, 2, 53), (53, 3, 3, .getfield 93, 6, 0, 1, 1, 28), (56, 1, 0, .iload_n 1, 0, 0, 0, 99, 0), (57, 1, 3, .aaload, 15, 0, 0, 99, 0), (58, 1, 0, .iload_n 3, 0, 0, 0, 99, 0), (59, 1, 3, .iaload, 0, 0, 0, 99, 0), (60, 2, 0, .istore 4, 0, 0, 0, 99, 0), (62, 1, 0, .aload_n 0, 0, 0, 0, 99, 0), (63, 3, 3, .getfield 70, 7, 10, 1, 2, 63), (66, 2, 0, .iload 4, 0, 0, 0, 99, 0), (68, 3, 4, .invokevirtual 136, 3, 2, 0, 2, 108), (71, 3, 2, .ifCond .eq 12, 0, 0, 0, 99, 0), (74, 1, 0, .iload_n 2, 0, 0, 0, 99, 0), (75, 2, 0, .iload 4, 0, 0, 0, 99, 0), (77, 1, 1, .ishr, 0, 0, 0, 99, 0), (78, 1, 0, .iconst 1, 0, 0, 0, 99, 0), (79, 1, 1, .iand, 0, 0, 0, 99, 0), (80, 3, 2, .ifCond .eq 5, 0, 0, 0, 99, 0), (83, 1, 0, .iconst 3, 0, 0, 0, 99, 0), (84, 1, 2, .ireturn, 0, 0, 0, 99, 0), (85, 1, 0, .iload_n 2, 0, 0, 0, 99, 0), (86, 1, 0, .iconst 1, 0, 0, 0, 99, 0), (87, 2, 0, .iload 4, 0, 0, 0, 99, 0), (89, 1, 1, .ishl, 0, 0, 0, 99, 0), (90, 1, 1, .ior, 0, 0, 0, 99, 0), (91, 1, 0, .istore_n 2, 0, 0, 0, 99, 0), (92, 3, 0, .iinc 3 1, 0, 0, 0, 99, 0), (95, 3, 2, .goto (-57), 0, 0, 0, 99, 0), (98, 1, 0, .iconst 0, 0, 0, 0, 99, 0), (99, 1, 2, .ireturn, 0, 0, 0, 99, 0)]
def pgX7_rulesThere : List (Nat × Nat × z_En) := [(0, 1, 0, .iconst 0, 0, 0, 0, 99, 0), (1, 1, 0, .istore_n 2, 0, 0, 0, 99, 0), (2, 1, 0, .iconst 0, 0, 0, 0, 99, 0), (3, 1, 0, .istore_n 3, 0, 0, 0, 99, 0), (4, 1, 0, .iload_n 3, 0, 0, 0, 99, 0), (5, 2, 0, .bipush 6, 0, 0, 0, 99, 0), (7, 3, 2, .if_icmp .ge 57, 0, 0, 0, 99, 0), (10, 1, 0, .iload_n 1, 0, 0, 0, 99, 0), (11, 3, 2, .ifCond .eq 15, 0, 0, 0, 99, 0), (14, 1, 0, .aload_n 0, 0, 0, 0, 99, 0), (15, 3, 3, .getfield 40, 7, 5, 1, 2, 62), (18, 1, 0, .iload_n 3, 0, 0, 0, 99, 0), (19, 1, 3, .aaload, 14, 0, 0, 99, 0), (20, 3, 4, .invokevirtual 206, 58, 1, 0, 3, 170), (23, 3, 2, .goto 20, 0, 0, 0, 99, 0), (26, 1, 0, .aload_n 0, 0, 0, 0, 99, 0), (27, 3, 3, .getfield 40, 7, 5, 1, 2, 62), (30, 1, 0, .iload_n 3, 0, 0, 0, 99, 0), (31, 1, 3, .aaload, 14, 0, 0, 99, 0), (32, 3, 3, .getfield 124, 4, 0, 0, 1, 87), (35, 3, 2, .ifCond .eq 7, 0, 0, 0, 99, 0), (38, 1, 0, .iconst 1, 0, 0, 0, 99, 0), (39, 3, 2, .goto 4, 0, 0, 0, 99, 0), (42, 1, 0, .iconst 0, 0, 0, 0, 99, 0), (43, 2, 0, .istore 4, 0, 0, 0, 99, 0), (45, 1, 0, .iload_n 2, 0, 0, 0, 99, 0), (46, 2, 0, .iload 4, 0, 0, 0, 99, 0), (48, 3, 2, .ifCond .eq 7, 0, 0, 0, 99, 0), (51, 1, 0, .iconst 1, 0, 0, 0, 99, 0), (52, 3, 2, .goto 4, 0, 0, 0, 99, 0), (55, 1, 0, .iconst 0, 0, 0, 0, 99, 0), (56, 1, 1, .iadd, 0, 0, 0, 99, 0), (57, 1, 0, .istore_n 2, 0, 0, 0, 99, 0), (58, 3, 0, .iinc 3 1, 0, 0, 0, 99, 0), (61, 3, 2, .goto (-57), 0, 0, 0, 99, 0), (64, 1, 0, .iload_n 2, 0, 0, 0, 99, 0), (65, 1, 2, .ireturn, 0, 0, 0, 99, 0)]
def pgX7_searchAll : List (Nat × Nat × z_En) := [(0, 1, 0, .aload_n 0, 0, 0, 0, 99, 0), (1, 3, 3, .getfield 59, 7, 8, 1, 2, 61), (4, 1, 0, .aload_n 0, 0, 0, 0, 99, 0), (5, 3, 3, .getfield 70, 7, 10, 1, 2, 63), (8, 1, 0, .iconst 0, 0, 0, 0, 99, 0), (9, 1, 0, .iconst 1, 0, 0, 0, 99, 0), (10, 3, 4, .invokevirtual 231, 64, 4, 0, 3, 65), (13, 1, 0, .iconst 0, 0, 0, 0, 99, 0), (14, 1, 0, .istore_n 2, 0, 0, 0, 99, 0), (15, 1, 0, .iload_n 2, 0, 0, 0, 99, 0), (16, 1, 0, .aload_n 0, 0, 0, 0, 99, 0), (17, 3, 3, .getfield 70, 7, 10, 1, 2, 63), (20, 3, 3, .getfield 127, 0, 3, 0, 1, 205), (23, 3, 2, .if_icmp .ge 17, 0, 0, 0, 99, 0), (26, 1, 0, .aload_n 0, 0, 0, 0, 99, 0), (27, 3, 3, .getfield 59, 7, 8, 1, 2, 61), (30, 1, 0, .iload_n 2, 0, 0, 0, 99, 0), (31, 3, 4, .invokevirtual 242, 66, 2, 0, 3, 69), (34, 3, 0, .iinc 2 1, 0, 0, 0, 99, 0), (37, 3, 2, .goto (-22), 0, 0, 0, 99, 0), (40, 1, 0, .aload_n 0, 0, 0, 0, 99, 0), (41, 3, 3, .getfield 59, 7, 8, 1, 2, 61), (44, 1, 0, .iload_n 1, 0, 0, 0, 99, 0), (45, 3, 4, .invokevirtual 245, 67, 2, 0, 3, 77), (48, 1, 2, .ireturn, 0, 0, 0, 99, 0)]
def pgX7_canAllHaveAll : List (Nat × Nat × z_En) := [(0, 1, 0, .aload_n 0, 0, 0, 0, 99, 0), (1, 3, 3, .getfield 59, 7, 8, 1, 2, 61), (4, 1, 0, .aload_n 0, 0, 0, 0, 99, 0), (5, 3, 3, .getfield 70, 7, 10, 1, 2, 63), (8, 1, 0, .iconst 0, 0, 0, 0, 99, 0), (9, 1, 0, .iconst 1, 0, 0, 0, 99, 0), (10, 3, 4, .invokevirtual 231, 64, 4, 0, 3, 65), (13, 1, 0, .iconst 0, 0, 0, 0, 99, 0), (14, 1, 0, .istore_n 2, 0, 0, 0, 99, 0), (15, 1, 0, .iload_n 2, 0, 0, 0, 99, 0), (16, 1, 0, .aload_n 0, 0, 0, 0, 99, 0), (17, 3, 3, .getfield 70, 7, 10, 1, 2, 63), (20, 3, 3, .getfield 127, 0, 3, 0, 1, 205), (23, 3, 2, .if_icmp .ge 33, 0, 0, 0, 99, 0), (26, 1, 0, .iload_n 1, 0, 0, 0, 99, 0), (27, 1, 0, .aload_n 0, 0, 0, 0, 99, 0), (28, 3, 3, .getfield 70, 7, 10, 1, 2, 63), (31, 3, 3, .getfield 187, 0, 12, 1, 1, 232), (34, 1, 0, .iload_n 2, 0, 0, 0, 99, 0), (35, 1, 3, .iaload, 0, 0, 0, 99, 0), (36, 1, 1, .ishr, 0, 0, 0, 99, 0), (37, 1, 0, .iconst 1, 0, 0, 0, 99, 0), (38, 1, 1, .iand, 0, 0, 0, 99, 0), (39, 3, 2, .ifCond .eq 11, 0, 0, 0, 99, 0), (42, 1, 0, .aload_n 0, 0, 0, 0, 99, 0), (43, 3, 3, .getfield 59, 7, 8, 1, 2, 61), (46, 1, 0, .iload_n 2, 0, 0, 0, 99, 0), (47, 3, 4, .invokevirtual 242, 66, 2, 0, 3, 69), (50, 3, 0, .iinc 2 1, 0, 0, 0, 99, 0), (53, 3, 2, .goto (-38), 0, 0, 0, 99, 0), (56, 1, 0, .aload_n 0, 0, 0, 0, 99, 0), (57, 3, 3, .getfield 59, 7, 8, 1, 2, 61), (60, 1, 0, .iconst 3, 0, 0, 0, 99, 0), (61, 3, 4, .invokevirtual 245, 67, 2, 0, 3, 77), (64, 2, 0, .ldc 218, 1000000, 0, 0, 3, 47), (66, 3, 2, .if_icmp .eq 7, 0, 0, 0, 99, 0), (69, 1, 0, .iconst 1, 0, 0, 0, 99, 0), (70, 3, 2, .goto 4, 0, 0, 0, 99, 0), (73, 1, 0, .iconst 0, 0, 0, 0, 99, 0), (74, 1, 2, .ireturn, 0, 0, 3, 99, 0)]
def pgX7_keepAhead : List (Nat × Nat × z_En) := [(0, 1, 0, .iconst 0, 0, 0, 0, 99, 0), (1, 1, 0, .istore_n 2, 0, 0, 0, 99, 0), (2, 1, 0, .iload_n 2, 0, 0, 0, 99, 0), (3, 1, 0, .iload_n 1, 0, 0, 0, 99, 0), (4, 3, 2, .if_icmp .ge 50, 0, 0, 0, 99, 0), (7, 1, 0, .iconst 0, 0, 0, 0, 99, 0), (8, 1, 0, .istore_n 3, 0, 0, 0, 99, 0), (9, 1, 0, .iload_n 3, 0, 0, 0, 99, 0), (10, 1, 0, .aload_n 0, 0, 0, 0, 99, 0), (11, 3, 3, .getfield 70, 7, 10, 1, 2, 63), (14, 3, 3, .getfield 127, 0, 3, 0, 1, 205), (17, 3, 2, .if_icmp .ge 31, 0, 0, 0, 99, 0), (20, 1, 0, .aload_n 0, 0, 0, 0, 99, 0), (21, 3, 3, .getfield 31, 7, 3, 1, 2, 56), (24, 3, 3, .getfield 166, 2, 0, 1, 1, 73), (27, 1, 0, .iload_n 3, 0, 0, 0, 99, 0), (28, 1, 3, .iaload, 0, 0, 0, 99, 0), (29, 1, 0, .iload_n 2, 0, 0, 0, 99, 0), (30, 3, 2, .if_icmp .ne 12, 0, 0, 0, 99, 0), (33, 1, 0, .aload_n 0, 0, 0, 0, 99, 0), (34, 3, 3, .getfield 59, 7, 8, 1, 2, 61), (37, 1, 0, .iload_n 3, 0, 0, 0, 99, 0), (38, 1, 0, .iload_n 2, 0, 0, 0, 99, 0), (39, 3, 4, .invokevirtual 285, 65, 3, 0, 3, 137), (42, 3, 0, .iinc 3 1, 0, 0, 0, 99, 0), (45, 3, 2, .goto (-36), 0, 0, 0, 99, 0), (48, 3, 0, .iinc 2 1, 0, 0, 0, 99, 0), (51, 3, 2, .goto (-49), 0, 0, 0, 99, 0), (54, 1, 2, .return_, 0, 0, 0, 99, 0)]
def pgX7_digestOfHouse : List (Nat × Nat × z_En) := [(0, 1, 0, .lload_n 1, 0, 0, 0, 99, 0), (1, 1, 0, .lstore_n 3, 0, 0, 0, 99, 0), (2, 1, 0, .iconst 0, 0, 0, 0, 99, 0), (3, 2, 0, .istore 5, 0, 0, 0, 99, 0), (5, 2, 0, .iload 5, 0, 0, 0, 99, 0), (7, 1, 0, .aload_n 0, 0, 0, 0, 99, 0), (8, 3, 3, .getfield 70, 7, 10, 1, 2, 67), (11, 3, 3, .getfield 250, 0, 1, 0, 1, 197), (14, 3, 2, .if_icmp .ge 43, 0, 0, 0, 99, 0), (17, 1, 0, .iconst 0, 0, 0, 0, 99, 0), (18, 2, 0, .istore 6, 0, 0, 0, 99, 0), (20, 2, 0, .iload 6, 0, 0, 0, 99, 0), (22, 1, 0, .iconst 2, 0, 0, 0, 99, 0), (23, 3, 2, .if_icmp .gt 28, 0, 0, 0, 99, 0), (26, 3, 0, .ldc2_w 272, 31, 0, 0, 4, 148), (29, 1, 0, .lload_n 3, 0, 0, 0, 99, 0), (30, 1, 1, .lmul, 0, 0, 0, 99, 0), (31, 1, 0, .aload_n 0, 0, 0, 0, 99, 0), (32, 3, 3, .getfield 70, 7, 10, 1, 2, 67), (35, 2, 0, .iload 5, 0, 0, 0, 99, 0), (37, 2, 0, .iload 6, 0, 0, 0, 99, 0), (39, 3, 4, .invokevirtual 133, 5, 3, 0, 3, 18), (42, 1, 1, .i2l, 0, 0, 0, 99, 0), (43, 1, 1, .ladd, 0, 0, 0, 99, 0), (44, 1, 0, .lstore_n 3, 0, 0, 0, 99, 0), (45, 3, 0, .iinc 6 1, 0, 0, 0, 99, 0), (48, 3, 2, .goto (-28), 0, 0, 0, 99, 0), (51, 3, 0, .iinc 5 1, 0, 0, 0, 99, 0), (54, 3, 2, .goto (-49), 0, 0, 0, 99, 0), (57, 1, 0, .iconst 0, 0, 0, 0, 99, 0), (58, 2, 0, .istore 5, 0, 0, 0, 99, 0), (60, 2, 0, .iload 5, 0, 0, 0, 99, 0), (62, 1, 0, .aload_n 0, 0, 0, 0, 99, 0), (63, 3, 3, .getfield 70, 7, 10, 1, 2, 67), (66, 3, 3, .getfield 200, 0, 2, 0, 1, 201), (69, 3, 2, .if_icmp .ge 43, 0, 0, 0, 99, 0), (72, 1, 0, .iconst 0, 0, 0, 0, 99, 0), (73, 2, 0, .istore 6, 0, 0, 0, 99, 0), (75, 2, 0, .iload 6, 0, 0, 0, 99, 0), (77, 1, 0, .iconst 3, 0, 0, 0, 99, 0), (78, 3, 2, .if_icmp .gt 28, 0, 0, 0, 99, 0), (81, 3, 0, .ldc2_w 272, 31, 0, 0, 4, 148), (84, 1, 0, .lload_n 3, 0, 0, 0, 99, 0), (85, 1, 1, .lmul, 0, 0, 0, 99, 0), (86, 1, 0, .aload_n 0, 0, 0, 0, 99, 0), (87, 3, 3, .getfield 70, 7, 10, 1, 2, 67), (90, 2, 0, .iload 5, 0, 0, 0, 99, 0), (92, 2, 0, .iload 6, 0, 0, 0, 99, 0), (94, 3, 4, .invokevirtual 139, 6, 3, 0, 3, 30), (97, 1, 1, .i2l, 0, 0, 0, 99, 0), (98, 1, 1, .ladd, 0, 0, 0, 99, 0), (99, 1, 0, .lstore_n 3, 0, 0, 0, 99, 0), (100, 3, 0, .iinc 6 1, 0, 0, 0, 99, 0), (103, 3, 2, .goto (-28), 0, 0, 0, 99, 0), (106, 3, 0, .iinc 5 1, 0, 0, 0, 99, 0), (109, 3, 2, .goto (-49), 0, 0, 0, 99, 0), (112, 1, 0, .iconst 0, 0, 0, 0, 99, 0), (113, 2, 0, .istore 5, 0, 0, 0, 99, 0), (115, 2, 0, .iload 5, 0, 0, 0, 99, 0), (117, 1, 0, .aload_n 0, 0, 0, 0, 99, 0), (118, 3, 3, .getfield 70, 7, 10, 1, 2, 67), (121, 3, 3, .getfield 127, 0, 3, 0, 1, 207), (124, 3, 2, .if_icmp .ge 40, 0, 0, 0, 99, 0), (127, 1, 0, .iconst 0, 0, 0, 0, 99, 0), (128, 2, 0, .istore 6, 0, 0, 0, 99, 0), (130, 2, 0, .iload 6, 0, 0, 0, 99, 0), (132, 1, 0, .iconst 5, 0, 0, 0, 99, 0), (133, 3, 2, .if_icmp .gt 25, 0, 0, 0, 99, 0), (136, 3, 0, .ldc2_w 272, 31, 0, 0, 4, 148), (139, 1, 0, .lload_n 3, 0, 0, 0, 99, 0), (140, 1, 1, .lmul, 0, 0, 0, 99, 0), (141, 1, 0, .aload_n 0, 0, 0, 0, 99, 0), (142, 2, 0, .iload 5, 0, 0, 0, 99, 0), (144, 2, 0, .iload 6, 0, 0, 0, 99, 0), (146, 3, 4, .invokevirtual 145, 128, 3, 0, 3, 42), (149, 1, 1, .i2l, 0, 0, 0, 99, 0), (150, 1, 1, .ladd, 0, 0, 0, 99, 0), (151, 1, 0, .lstore_n 3, 0, 0, 0, 99, 0), (152, 3, 0, .iinc 6 1, 0, 0, 0, 99, 0), (155, 3, 2, .goto (-25), 0, 0, 0, 99, 0), (158, 3, 0, .iinc 5 1, 0, 0, 0, 99, 0), (161, 3, 2, .goto (-46), 0, 0, 0, 99, 0), (164, 1, 0, .lload_n 3, 0, 0, 0, 99, 0), (165, 1, 2, .lreturn, 0, 0, 0, 99, 0)]
def pgX8_init : List (Nat × Nat × z_En) := [(0, 1, 0, .aload_n 0, 0, 0, 0, 99, 0), (1, 3, 4, .invokespecial 1, 0, 0, 13, 4, 164), (4, 1, 0, .aload_n 0, 0, 0, 0, 99, 0), (5, 2, 0, .bipush 6, 0, 0, 0, 99, 0), (7, 2, 3, .newarray .int, 10, 0, 0, 99, 0), (9, 3, 3, .putfield 7, 8, 1, 1, 4, 166), (12, 1, 0, .aload_n 0, 0, 0, 0, 99, 0), (13, 2, 0, .bipush 6, 0, 0, 0, 99, 0), (15, 2, 3, .newarray .int, 10, 0, 0, 99, 0), (17, 3, 3, .putfield 13, 8, 3, 1, 4, 168), (20, 1, 0, .aload_n 0, 0, 0, 0, 99, 0), (21, 3, 0, .sipush 288, 0, 0, 0, 99, 0), (24, 2, 3, .newarray .int, 10, 0, 0, 99, 0), (26, 3, 3, .putfield 16, 8, 4, 1, 4, 169), (29, 1, 0, .aload_n 0, 0, 0, 0, 99, 0), (30, 2, 0, .bipush 48, 0, 0, 0, 99, 0), (32, 2, 3, .newarray .int, 10, 0, 0, 99, 0), (34, 3, 3, .putfield 19, 8, 5, 1, 4, 170), (37, 1, 0, .aload_n 0, 0, 0, 0, 99, 0), (38, 1, 0, .iconst 4, 0, 0, 0, 99, 0), (39, 2, 3, .newarray .int, 10, 0, 0, 99, 0), (41, 3, 3, .putfield 22, 8, 6, 1, 4, 171), (44, 1, 0, .aload_n 0, 0, 0, 0, 99, 0), (45, 3, 0, .sipush 480, 0, 0, 0, 99, 0), (48, 2, 3, .newarray .byte, 12, 0, 0, 99, 0), (50, 3, 3, .putfield 25, 8, 7, 1, 4, 172), (53, 1, 0, .aload_n 0, 0, 0, 0, 99, 0), (54, 2, 0, .bipush 18, 0, 0, 0, 99, 0), (56, 2, 3, .newarray .int, 10, 0, 0, 99, 0), (58, 3, 3, .putfield 29, 8, 14, 1, 4, 179), (61, 1, 0, .aload_n 0, 0, 0, 0, 99, 0), (62, 2, 0, .bipush 24, 0, 0, 0, 99, 0), (64, 2, 3, .newarray .int, 10, 0, 0, 99, 0), (66, 3, 3, .putfield 32, 8, 15, 1, 4, 180), (69, 1, 0, .aload_n 0, 0, 0, 0, 99, 0), (70, 2, 0, .bipush 96, 0, 0, 0, 99, 0), (72, 2, 3, .newarray .int, 10, 0, 0, 99, 0), (74, 3, 3, .putfield 35, 8, 16, 1, 4, 181), (77, 1, 0, .aload_n 0, 0, 0, 0, 99, 0), (78, 2, 0, .bipush 24, 0, 0, 0, 99, 0), (80, 2, 3, .newarray .int, 10, 0, 0, 99, 0), (82, 3, 3, .putfield 38, 8, 17, 1, 4, 182), (85, 1, 0, .aload_n 0, 0, 0, 0, 99, 0), (86, 2, 0, .bipush 24, 0, 0, 0, 99, 0), (88, 2, 3, .newarray .int, 10, 0, 0, 99, 0), (90, 3, 3, .putfield 41, 8, 18, 1, 4, 183), (93, 1, 0, .aload_n 0, 0, 0, 0, 99, 0), (94, 2, 0, .bipush 18, 0, 0, 0, 99, 0), (96, 2, 3, .newarray .int, 10, 0, 0, 99, 0), (98, 3, 3, .putfield 44, 8, 27, 1, 4, 192), (101, 1, 0, .aload_n 0, 0, 0, 0, 99, 0), (102, 2, 0, .bipush 24, 0, 0, 0, 99, 0), (104, 2, 3, .newarray .int, 10, 0, 0, 99, 0), (106, 3, 3, .putfield 47, 8, 28, 1, 4, 193), (109, 1, 0, .aload_n 0, 0, 0, 0, 99, 0), (110, 2, 0, .bipush 96, 0, 0, 0, 99, 0), (112, 2, 3, .newarray .int, 10, 0, 0, 99, 0), (114, 3, 3, .putfield 50, 8, 29, 1, 4, 194), (117, 1, 0, .aload_n 0, 0, 0, 0, 99, 0), (118, 2, 0, .bipush 24, 0, 0, 0, 99, 0), (120, 2, 3, .newarray .int, 10, 0, 0, 99, 0), (122, 3, 3, .putfield 53, 8, 30, 1, 4, 195), (125, 1, 0, .aload_n 0, 0, 0, 0, 99, 0), (126, 2, 0, .bipush 24, 0, 0, 0, 99, 0), (128, 2, 3, .newarray .int, 10, 0, 0, 99, 0), (130, 3, 3, .putfield 56, 8, 31, 1, 4, 196), (133, 1, 0, .aload_n 0, 0, 0, 0, 99, 0), (134, 2, 0, .bipush 24, 0, 0, 0, 99, 0), (136, 2, 3, .newarray .int, 10, 0, 0, 99, 0), (138, 3, 3, .putfield 59, 8, 32, 1, 4, 197), (141, 1, 0, .aload_n 0, 0, 0, 0, 99, 0), (142, 2, 0, .bipush 6, 0, 0, 0, 99, 0), (144, 2, 3, .newarray .int, 10, 0, 0, 99, 0), (146, 3, 3, .putfield 62, 8, 33, 1, 4, 198), (149, 1, 0, .aload_n 0, 0, 0, 0, 99, 0), (150, 2, 0, .bipush 48, 0, 0, 0, 99, 0), (152, 2, 3, .newarray .int, 10, 0, 0, 99, 0), (154, 3, 3, .putfield 65, 8, 34, 1, 4, 199), (157, 1, 0, .aload_n 0, 0, 0, 0, 99, 0), (158, 2, 0, .bipush 8, 0, 0, 0, 99, 0), (160, 2, 3, .newarray .int, 10, 0, 0, 99, 0), (162, 3, 3, .putfield 68, 8, 35, 1, 4, 200), (165, 1, 0, .aload_n 0, 0, 0, 0, 99, 0), (166, 2, 0, .bipush 24, 0, 0, 0, 99, 0), (168, 2, 3, .newarray .int, 10, 0, 0, 99, 0), (170, 3, 3, .putfield 71, 8, 36, 1, 4, 201), (173, 1, 0, .aload_n 0, 0, 0, 0, 99, 0), (174, 2, 0, .bipush 24, 0, 0, 0, 99, 0), (176, 2, 3, .newarray .int, 10, 0, 0, 99, 0), (178, 3, 3, .putfield 74, 8, 37, 1, 4, 202), (181, 1, 0, .aload_n 0, 0, 0, 0, 99, 0), (182, 2, 0, .bipush 24, 0, 0, 0, 99, 0), (184, 2, 3, .newarray .int, 10, 0, 0, 99, 0), (186, 3, 3, .putfield 77, 8, 38, 1, 4, 203), (189, 1, 0, .aload_n 0, 0, 0, 0, 99, 0), (190, 2, 0, .bipush 9, 0, 0, 0, 99, 0), (192, 2, 3, .newarray .int, 10, 0, 0, 99, 0), (194, 3, 3, .putfield 80, 8, 46, 1, 4, 211), (197, 1, 0, .aload_n 0, 0, 0, 0, 99, 0), (198, 2, 0, .bipush 60, 0, 0, 0, 99, 0), (200, 3, 3, .putfield 83, 8, 8, 0, 4, 173), (203, 1, 0, .iconst 0, 0, 0, 0, 99, 0), (204, 1, 0, .istore_n 1, 0, 0, 0, 99, 0), (205, 1, 0, .iload_n 1, 0, 0, 0, 99, 0), (206, 2, 0, .bipush 24, 0, 0, 0, 99, 0), (208, 3, 2, .if_icmp .ge 17, 0, 0, 0, 99, 0), (211, 1, 0, .aload_n 0, 0, 0, 0, 99, 0), (212, 3, 3, .getfield 59, 8, 32, 1, 4, 197), (215, 1, 0, .iload_n 1, 0, 0, 0, 99, 0), (216, 2, 0, .bipush (-9), 0, 0, 0, 99, 0), (218, 1, 3, .iastore, 0, 0, 0, 99, 0), (219, 3, 0, .iinc 1 1, 0, 0, 0, 99, 0), (222, 3, 2, .goto (-17), 0, 0, 0, 99, 0), (225, 1, 0, .iconst 0, 0, 0, 0, 99, 0), (226, 1, 0, .istore_n 1, 0, 0, 0, 99, 0), (227, 1, 0, .iload_n 1, 0, 0, 0, 99, 0), (228, 2, 0, .bipush 6, 0, 0, 0, 99, 0), (230, 3, 2, .if_icmp .ge 16, 0, 0, 0, 99, 0), (233, 1, 0, .aload_n 0, 0, 0, 0, 99, 0), (234, 3, 3, .getfield 13, 8, 3, 1, 4, 168), (237, 1, 0, .iload_n 1, 0, 0, 0, 99, 0), (238, 1, 0, .iconst (-1), 0, 0, 0, 99, 0), (239, 1, 3, .iastore, 0, 0, 0, 99, 0), (240, 3, 0, .iinc 1 1, 0, 0, 0, 99, 0), (243, 3, 2, .goto (-16), 0, 0, 0, 99, 0), (246, 1, 0, .iconst 0, 0, 0, 0, 99, 0), (247, 1, 0, .istore_n 1, 0, 0, 0, 99, 0), (248, 1, 0, .iload_n 1, 0, 0, 0, 99, 0), (249, 1, 0, .iconst 4, 0, 0, 0, 99, 0), (250, 3, 2, .if_icmp .ge 16, 0, 0, 0, 99, 0), (253, 1, 0, .aload_n 0, 0, 0, 0, 99, 0), (254, 3, 3, .getfield 22, 8, 6, 1, 4, 171), (257, 1, 0, .iload_n 1, 0, 0, 0, 99, 0), (258, 1, 0, .iconst (-1), 0, 0, 0, 99, 0), (259, 1, 3, .iastore, 0, 0, 0, 99, 0), (260, 3, 0, .iinc 1 1, 0, 0, 0, 99, 0), (263, 3, 2, .goto (-15), 0, 0, 0, 99, 0), (266, 1, 2, .return_, 0, 0, 0, 99, 0)]
def pgX8_in : List (Nat × Nat × z_En) := [(0, 1, 0, .iload_n 0, 0, 0, 0, 99, 0), (1, 1, 0, .iload_n 1, 0, 0, 0, 99, 0), (2, 3, 2, .if_icmp .lt 12, 0, 0, 0, 99, 0), (5, 1, 0, .iload_n 0, 0, 0, 0, 99, 0), (6, 1, 0, .iload_n 2, 0, 0, 0, 99, 0), (7, 3, 2, .if_icmp .gt 7, 0, 0, 0, 99, 0), (10, 1, 0, .iconst 1, 0, 0, 0, 99, 0), (11, 3, 2, .goto 4, 0, 0, 0, 99, 0), (14, 1, 0, .iconst 0, 0, 0, 0, 99, 0), (15, 1, 2, .ireturn, 0, 0, 3, 99, 0)]
def pgX8_has : List (Nat × Nat × z_En) := [(0, 1, 0, .iload_n 0, 0, 0, 0, 99, 0), (1, 1, 0, .iload_n 1, 0, 0, 0, 99, 0), (2, 1, 1, .ishr, 0, 0, 0, 99, 0), (3, 1, 0, .iconst 1, 0, 0, 0, 99, 0), (4, 1, 1, .iand, 0, 0, 0, 99, 0), (5, 1, 0, .iconst 1, 0, 0, 0, 99, 0), (6, 3, 2, .if_icmp .ne 7, 0, 0, 0, 99, 0), (9, 1, 0, .iconst 1, 0, 0, 0, 99, 0), (10, 3, 2, .goto 4, 0, 0, 0, 99, 0), (13, 1, 0, .iconst 0, 0, 0, 0, 99, 0), (14, 1, 2, .ireturn, 0, 0, 3, 99, 0)]
def pgX8_bits : List (Nat × Nat × z_En) := [(0, 1, 0, .iconst 0, 0, 0, 0, 99, 0), (1, 1, 0, .istore_n 1, 0, 0, 0, 99, 0), (2, 1, 0, .iload_n 0, 0, 0, 0, 99, 0), (3, 1, 0, .istore_n 2, 0, 0, 0, 99, 0), (4, 1, 0, .iload_n 2, 0, 0, 0, 99, 0), (5, 3, 2, .ifCond .eq 15, 0, 0, 0, 99, 0), (8, 3, 0, .iinc 1 1, 0, 0, 0, 99, 0), (11, 1, 0, .iload_n 2, 0, 0, 0, 99, 0), (12, 1, 0, .iload_n 2, 0, 0, 0, 99, 0), (13, 1, 0, .iconst 1, 0, 0, 0, 99, 0), (14, 1, 1, .isub, 0, 0, 0, 99, 0), (15, 1, 1, .iand, 0, 0, 0, 99, 0), (16, 1, 0, .istore_n 2, 0, 0, 0, 99, 0), (17, 3, 2, .goto (-13), 0, 0, 0, 99, 0), (20, 1, 0, .iload_n 1, 0, 0, 0, 99, 0), (21, 1, 2, .ireturn, 0, 0, 0, 99, 0)]
def pgX8_greater : List (Nat × Nat × z_En) := [(0, 1, 0, .iload_n 0, 0, 0, 0, 99, 0), (1, 1, 0, .iload_n 1, 0, 0, 0, 99, 0), (2, 3, 2, .if_icmp .le 7, 0, 0, 0, 99, 0), (5, 1, 0, .iload_n 0, 0, 0, 0, 99, 0), (6, 3, 2, .goto 4, 0, 0, 0, 99, 0), (9, 1, 0, .iload_n 1, 0, 0, 0, 99, 0), (10, 1, 2, .ireturn, 0, 0, 0, 99, 0)]
def pgX8_meets : List (Nat × Nat × z_En) := [(0, 1, 0, .aload_n 0, 0, 0, 0, 99, 0), (1, 1, 0, .iload_n 1, 0, 0, 0, 99, 0), (2, 3, 3, .putfield 87, 8, 0, 0, 4, 165), (5, 1, 0, .aload_n 0, 0, 0, 0, 99, 0), (6, 3, 3, .getfield 7, 8, 1, 1, 4, 166), (9, 1, 0, .iload_n 1, 0, 0, 0, 99, 0), (10, 1, 0, .dup2, 0, 0, 0, 99, 0), (11, 1, 3, .iaload, 0, 0, 0, 99, 0), (12, 1, 0, .iconst 1, 0, 0, 0, 99, 0), (13, 1, 1, .iadd, 0, 0, 0, 99, 0), (14, 1, 3, .iastore, 0, 0, 0, 99, 0), (15, 2, 0, .bipush (-3), 0, 0, 0, 99, 0), (17, 1, 2, .ireturn, 0, 0, 0, 99, 0)]
def pgX8_finding : List (Nat × Nat × z_En) := [(0, 1, 0, .aload_n 0, 0, 0, 0, 99, 0), (1, 3, 3, .getfield 87, 8, 0, 0, 4, 165), (4, 1, 2, .ireturn, 0, 0, 0, 99, 0)]
def pgX8_findings : List (Nat × Nat × z_En) := [(0, 1, 0, .iload_n 1, 0, 0, 0, 99, 0), (1, 1, 0, .iconst 1, 0, 0, 0, 99, 0), (2, 1, 0, .iconst 5, 0, 0, 0, 99, 0), (3, 3, 4, .invokestatic 90, 136, 3, 1, 5, 79), (6, 3, 2, .ifCond .eq 12, 0, 0, 0, 99, 0), (9, 1, 0, .aload_n 0, 0, 0, 0, 99, 0), (10, 3, 3, .getfield 7, 8, 1, 1, 4, 166), (13, 1, 0, .iload_n 1, 0, 0, 0, 99, 0), (14, 1, 3, .iaload, 0, 0, 0, 99, 0), (15, 3, 2, .goto 4, 0, 0, 0, 99, 0), (18, 1, 0, .iconst (-1), 0, 0, 0, 99, 0), (19, 1, 2, .ireturn, 0, 0, 0, 99, 0)]
def pgX8_tells : List (Nat × Nat × z_En) := [(0, 1, 0, .aload_n 0, 0, 0, 0, 99, 0), (1, 1, 0, .iload_n 1, 0, 0, 0, 99, 0), (2, 3, 3, .putfield 94, 8, 2, 0, 4, 167), (5, 1, 0, .iload_n 2, 0, 0, 0, 99, 0), (6, 1, 2, .ireturn, 0, 0, 0, 99, 0)]
def pgX8_asked : List (Nat × Nat × z_En) := [(0, 1, 0, .aload_n 0, 0, 0, 0, 99, 0), (1, 3, 3, .getfield 94, 8, 2, 0, 4, 167), (4, 1, 2, .ireturn, 0, 0, 0, 99, 0)]
def pgX8_isRow : List (Nat × Nat × z_En) := [(0, 1, 0, .iload_n 0, 0, 0, 0, 99, 0), (1, 1, 0, .iconst 0, 0, 0, 0, 99, 0), (2, 1, 0, .iconst 5, 0, 0, 0, 99, 0), (3, 3, 4, .invokestatic 90, 136, 3, 1, 5, 79), (6, 1, 2, .ireturn, 0, 0, 3, 99, 0)]
def pgX8_rowAt : List (Nat × Nat × z_En) := [(0, 1, 0, .aload_n 0, 0, 0, 0, 99, 0), (1, 3, 3, .getfield 16, 8, 4, 1, 4, 169), (4, 2, 0, .bipush 48, 0, 0, 0, 99, 0), (6, 1, 0, .iload_n 1, 0, 0, 0, 99, 0), (7, 1, 1, .imul, 0, 0, 0, 99, 0), (8, 1, 0, .iload_n 2, 0, 0, 0, 99, 0), (9, 1, 1, .iadd, 0, 0, 0, 99, 0), (10, 1, 3, .iaload, 0, 0, 0, 99, 0), (11, 1, 2, .ireturn, 0, 0, 0, 99, 0)]
def pgX8_row : List (Nat × Nat × z_En) := [(0, 1, 0, .iload_n 1, 0, 0, 0, 99, 0), (1, 3, 4, .invokestatic 97, 145, 1, 1, 5, 90), (4, 3, 2, .ifCond .eq 9, 0, 0, 0, 99, 0), (7, 1, 0, .iload_n 2, 0, 0, 0, 99, 0), (8, 2, 0, .bipush 48, 0, 0, 0, 99, 0), (10, 3, 2, .if_icmp .le 5, 0, 0, 0, 99, 0), (13, 1, 0, .iconst (-1), 0, 0, 0, 99, 0), (14, 1, 2, .ireturn, 0, 0, 0, 99, 0), (15, 1, 0, .iload_n 2, 0, 0, 0, 99, 0), (16, 3, 2, .ifCond .ge 9, 0, 0, 0, 99, 0), (19, 1, 0, .aload_n 0, 0, 0, 0, 99, 0), (20, 1, 0, .iconst 5, 0, 0, 0, 99, 0), (21, 3, 4, .invokevirtual 101, 140, 2, 0, 5, 93), (24, 1, 2, .ireturn, 0, 0, 0, 99, 0), (25, 1, 0, .aload_n 0, 0, 0, 0, 99, 0), (26, 3, 3, .getfield 13, 8, 3, 1, 4, 168), (29, 1, 0, .iload_n 1, 0, 0, 0, 99, 0), (30, 1, 0, .iload_n 2, 0, 0, 0, 99, 0), (31, 1, 3, .iastore, 0, 0, 0, 99, 0), (32, 1, 0, .iconst 0, 0, 0, 0, 99, 0), (33, 1, 0, .istore_n 3, 0, 0, 0, 99, 0), (34, 1, 0, .iload_n 3, 0, 0, 0, 99, 0), (35, 2, 0, .bipush 48, 0, 0, 0, 99, 0), (37, 3, 2, .if_icmp .ge 21, 0, 0, 0, 99, 0), (40, 1, 0, .aload_n 0, 0, 0, 0, 99, 0), (41, 3, 3, .getfield 16, 8, 4, 1, 4, 169), (44, 2, 0, .bipush 48, 0, 0, 0, 99, 0), (46, 1, 0, .iload_n 1, 0, 0, 0, 99, 0), (47, 1, 1, .imul, 0, 0, 0, 99, 0), (48, 1, 0, .iload_n 3, 0, 0, 0, 99, 0), (49, 1, 1, .iadd, 0, 0, 0, 99, 0), (50, 1, 0, .iconst 0, 0, 0, 0, 99, 0), (51, 1, 3, .iastore, 0, 0, 0, 99, 0), (52, 3, 0, .iinc 3 1, 0, 0, 0, 99, 0), (55, 3, 2, .goto (-21), 0, 0, 0, 99, 0), (58, 1, 0, .iload_n 2, 0, 0, 0, 99, 0), (59, 1, 2, .ireturn, 0, 0, 0, 99, 0)]
def pgX8_lay : List (Nat × Nat × z_En) := [(0, 1, 0, .iload_n 1, 0, 0, 0, 99, 0), (1, 3, 4, .invokestatic 97, 145, 1, 1, 5, 90), (4, 3, 2, .ifCond .ne 5, 0, 0, 0, 99, 0), (7, 1, 0, .iconst (-1), 0, 0, 0, 99, 0), (8, 1, 2, .ireturn, 0, 0, 0, 99, 0), (9, 1, 0, .aload_n 0, 0, 0, 0, 99, 0), (10, 3, 3, .getfield 13, 8, 3, 1, 4, 168), (13, 1, 0, .iload_n 1, 0, 0, 0, 99, 0), (14, 1, 3, .iaload, 0, 0, 0, 99, 0), (15, 3, 2, .ifCond .ge 9, 0, 0, 0, 99, 0), (18, 1, 0, .aload_n 0, 0, 0, 0, 99, 0), (19, 1, 0, .iconst 1, 0, 0, 0, 99, 0), (20, 3, 4, .invokevirtual 101, 140, 2, 0, 5, 93), (23, 1, 2, .ireturn, 0, 0, 0, 99, 0), (24, 1, 0, .iload_n 2, 0, 0, 0, 99, 0), (25, 1, 0, .iconst 0, 0, 0, 0, 99, 0), (26, 1, 0, .aload_n 0, 0, 0, 0, 99, 0), (27, 3, 3, .getfield 13, 8, 3, 1, 4, 168), (30, 1, 0, .iload_n 1, 0, 0, 0, 99, 0), (31, 1, 3, .iaload, 0, 0, 0, 99, 0), (32, 1, 0, .iconst 1, 0, 0, 0, 99, 0), (33, 1, 1, .isub, 0, 0, 0, 99, 0), (34, 3, 4, .invokestatic 90, 136, 3, 1, 5, 79), (37, 3, 2, .ifCond .ne 9, 0, 0, 0, 99, 0), (40, 1, 0, .aload_n 0, 0, 0, 0, 99, 0), (41, 1, 0, .iconst 2, 0, 0, 0, 99, 0), (42, 3, 4, .invokevirtual 101, 140, 2, 0, 5, 93), (45, 1, 2, .ireturn, 0, 0, 0, 99, 0), (46, 1, 0, .aload_n 0, 0, 0, 0, 99, 0), (47, 1, 0, .iload_n 1, 0, 0, 0, 99, 0), (48, 1, 0, .iload_n 2, 0, 0, 0, 99, 0), (49, 3, 4, .invokevirtual 105, 146, 3, 0, 5, 101), (52, 2, 0, .istore 4, 0, 0, 0, 99, 0), (54, 1, 0, .aload_n 0, 0, 0, 0, 99, 0), (55, 3, 3, .getfield 16, 8, 4, 1, 4, 169), (58, 2, 0, .bipush 48, 0, 0, 0, 99, 0), (60, 1, 0, .iload_n 1, 0, 0, 0, 99, 0), (61, 1, 1, .imul, 0, 0, 0, 99, 0), (62, 1, 0, .iload_n 2, 0, 0, 0, 99, 0), (63, 1, 1, .iadd, 0, 0, 0, 99, 0), (64, 1, 0, .iload_n 3, 0, 0, 0, 99, 0), (65, 1, 3, .iastore, 0, 0, 0, 99, 0), (66, 1, 0, .aload_n 0, 0, 0, 0, 99, 0), (67, 2, 0, .iload 4, 0, 0, 0, 99, 0), (69, 1, 0, .iconst 1, 0, 0, 0, 99, 0), (70, 3, 4, .invokevirtual 109, 143, 3, 0, 5, 105), (73, 1, 2, .ireturn, 0, 0, 0, 99, 0)]
def pgX8_at : List (Nat × Nat × z_En) := [(0, 1, 0, .iload_n 1, 0, 0, 0, 99, 0), (1, 3, 4, .invokestatic 97, 145, 1, 1, 5, 90), (4, 3, 2, .ifCond .ne 5, 0, 0, 0, 99, 0), (7, 1, 0, .iconst (-1), 0, 0, 0, 99, 0), (8, 1, 2, .ireturn, 0, 0, 0, 99, 0), (9, 1, 0, .aload_n 0, 0, 0, 0, 99, 0), (10, 3, 3, .getfield 13, 8, 3, 1, 4, 168), (13, 1, 0, .iload_n 1, 0, 0, 0, 99, 0), (14, 1, 3, .iaload, 0, 0, 0, 99, 0), (15, 3, 2, .ifCond .ge 9, 0, 0, 0, 99, 0), (18, 1, 0, .aload_n 0, 0, 0, 0, 99, 0), (19, 1, 0, .iconst 1, 0, 0, 0, 99, 0), (20, 3, 4, .invokevirtual 101, 140, 2, 0, 5, 93), (23, 1, 2, .ireturn, 0, 0, 0, 99, 0), (24, 1, 0, .iload_n 2, 0, 0, 0, 99, 0), (25, 1, 0, .iconst 0, 0, 0, 0, 99, 0), (26, 1, 0, .aload_n 0, 0, 0, 0, 99, 0), (27, 3, 3, .getfield 13, 8, 3, 1, 4, 168), (30, 1, 0, .iload_n 1, 0, 0, 0, 99, 0), (31, 1, 3, .iaload, 0, 0, 0, 99, 0), (32, 1, 0, .iconst 1, 0, 0, 0, 99, 0), (33, 1, 1, .isub, 0, 0, 0, 99, 0), (34, 3, 4, .invokestatic 90, 136, 3, 1, 5, 79), (37, 3, 2, .ifCond .eq 17, 0, 0, 0, 99, 0), (40, 1, 0, .aload_n 0, 0, 0, 0, 99, 0), (41, 1, 0, .aload_n 0, 0, 0, 0, 99, 0), (42, 1, 0, .iload_n 1, 0, 0, 0, 99, 0), (43, 1, 0, .iload_n 2, 0, 0, 0, 99, 0), (44, 3, 4, .invokevirtual 105, 146, 3, 0, 5, 101), (47, 1, 0, .iconst 1, 0, 0, 0, 99, 0), (48, 3, 4, .invokevirtual 109, 143, 3, 0, 5, 105), (51, 3, 2, .goto 8, 0, 0, 0, 99, 0), (54, 1, 0, .aload_n 0, 0, 0, 0, 99, 0), (55, 1, 0, .iconst 2, 0, 0, 0, 99, 0), (56, 3, 4, .invokevirtual 101, 140, 2, 0, 5, 93), (59, 1, 2, .ireturn, 0, 0, 0, 99, 0)]
def pgX8_tear : List (Nat × Nat × z_En) := [(0, 1, 0, .iload_n 1, 0, 0, 0, 99, 0), (1, 3, 4, .invokestatic 97, 145, 1, 1, 5, 90), (4, 3, 2, .ifCond .ne 5, 0, 0, 0, 99, 0), (7, 1, 0, .iconst (-1), 0, 0, 0, 99, 0), (8, 1, 2, .ireturn, 0, 0, 0, 99, 0), (9, 1, 0, .aload_n 0, 0, 0, 0, 99, 0), (10, 3, 3, .getfield 13, 8, 3, 1, 4, 168), (13, 1, 0, .iload_n 1, 0, 0, 0, 99, 0), (14, 1, 3, .iaload, 0, 0, 0, 99, 0), (15, 3, 2, .ifCond .ge 9, 0, 0, 0, 99, 0), (18, 1, 0, .aload_n 0, 0, 0, 0, 99, 0), (19, 1, 0, .iconst 1, 0, 0, 0, 99, 0), (20, 3, 4, .invokevirtual 101, 140, 2, 0, 5, 93), (23, 1, 2, .ireturn, 0, 0, 0, 99, 0), (24, 1, 0, .aload_n 0, 0, 0, 0, 99, 0), (25, 3, 3, .getfield 13, 8, 3, 1, 4, 168), (28, 1, 0, .iload_n 1, 0, 0, 0, 99, 0), (29, 1, 0, .iconst (-1), 0, 0, 0, 99, 0), (30, 1, 3, .iastore, 0, 0, 0, 99, 0), (31, 1, 0, .iconst 1, 0, 0, 0, 99, 0), (32, 1, 2, .ireturn, 0, 0, 0, 99, 0)]
def pgX8_copy : List (Nat × Nat × z_En) := [(0, 1, 0, .iload_n 1, 0, 0, 0, 99, 0), (1, 3, 4, .invokestatic 97, 145, 1, 1, 5, 90), (4, 3, 2, .ifCond .eq 10, 0, 0, 0, 99, 0), (7, 1, 0, .iload_n 3, 0, 0, 0, 99, 0), (8, 3, 4, .invokestatic 97, 145, 1, 1, 5, 90), (11, 3, 2, .ifCond .ne 5, 0, 0, 0, 99, 0), (14, 1, 0, .iconst (-1), 0, 0, 0, 99, 0), (15, 1, 2, .ireturn, 0, 0, 0, 99, 0), (16, 2, 0, .iload 5, 0, 0, 0, 99, 0), (18, 3, 2, .ifCond .ge 9, 0, 0, 0, 99, 0), (21, 1, 0, .aload_n 0, 0, 0, 0, 99, 0), (22, 1, 0, .iconst 5, 0, 0, 0, 99, 0), (23, 3, 4, .invokevirtual 101, 140, 2, 0, 5, 93), (26, 1, 2, .ireturn, 0, 0, 0, 99, 0), (27, 1, 0, .aload_n 0, 0, 0, 0, 99, 0), (28, 3, 3, .getfield 13, 8, 3, 1, 4, 168), (31, 1, 0, .iload_n 1, 0, 0, 0, 99, 0), (32, 1, 3, .iaload, 0, 0, 0, 99, 0), (33, 3, 2, .ifCond .lt 12, 0, 0, 0, 99, 0), (36, 1, 0, .aload_n 0, 0, 0, 0, 99, 0), (37, 3, 3, .getfield 13, 8, 3, 1, 4, 168), (40, 1, 0, .iload_n 3, 0, 0, 0, 99, 0), (41, 1, 3, .iaload, 0, 0, 0, 99, 0), (42, 3, 2, .ifCond .ge 9, 0, 0, 0, 99, 0), (45, 1, 0, .aload_n 0, 0, 0, 0, 99, 0), (46, 1, 0, .iconst 1, 0, 0, 0, 99, 0), (47, 3, 4, .invokevirtual 101, 140, 2, 0, 5, 93), (50, 1, 2, .ireturn, 0, 0, 0, 99, 0), (51, 1, 0, .iload_n 2, 0, 0, 0, 99, 0), (52, 3, 2, .ifCond .lt 43, 0, 0, 0, 99, 0), (55, 2, 0, .iload 4, 0, 0, 0, 99, 0), (57, 3, 2, .ifCond .lt 38, 0, 0, 0, 99, 0), (60, 1, 0, .iload_n 2, 0, 0, 0, 99, 0), (61, 1, 1, .i2l, 0, 0, 0, 99, 0), (62, 2, 0, .iload 5, 0, 0, 0, 99, 0), (64, 1, 1, .i2l, 0, 0, 0, 99, 0), (65, 1, 1, .ladd, 0, 0, 0, 99, 0), (66, 1, 0, .aload_n 0, 0, 0, 0, 99, 0), (67, 3, 3, .getfield 13, 8, 3, 1, 4, 168), (70, 1, 0, .iload_n 1, 0, 0, 0, 99, 0), (71, 1, 3, .iaload, 0, 0, 0, 99, 0), (72, 1, 1, .i2l, 0, 0, 0, 99, 0), (73, 1, 1, .lcmp, 0, 0, 0, 99, 0), (74, 3, 2, .ifCond .gt 21, 0, 0, 0, 99, 0), (77, 2, 0, .iload 4, 0, 0, 0, 99, 0), (79, 1, 1, .i2l, 0, 0, 0, 99, 0), (80, 2, 0, .iload 5, 0, 0, 0, 99, 0), (82, 1, 1, .i2l, 0, 0, 0, 99, 0), (83, 1, 1, .ladd, 0, 0, 0, 99, 0), (84, 1, 0, .aload_n 0, 0, 0, 0, 99, 0), (85, 3, 3, .getfield 13, 8, 3, 1, 4, 168), (88, 1, 0, .iload_n 3, 0, 0, 0, 99, 0), (89, 1, 3, .iaload, 0, 0, 0, 99, 0), (90, 1, 1, .i2l, 0, 0, 0, 99, 0), (91, 1, 1, .lcmp, 0, 0, 0, 99, 0), (92, 3, 2, .ifCond .le 9, 0, 0, 0, 99, 0), (95, 1, 0, .aload_n 0, 0, 0, 0, 99, 0), (96, 1, 0, .iconst 2, 0, 0, 0, 99, 0), (97, 3, 4, .invokevirtual 101, 140, 2, 0, 5, 93), (100, 1, 2, .ireturn, 0, 0, 0, 99, 0), (101, 1, 0, .iconst 0, 0, 0, 0, 99, 0), (102, 2, 0, .istore 6, 0, 0, 0, 99, 0), (104, 2, 0, .iload 6, 0, 0, 0, 99, 0), (106, 2, 0, .iload 5, 0, 0, 0, 99, 0), (108, 3, 2, .if_icmp .ge 25, 0, 0, 0, 99, 0), (111, 1, 0, .aload_n 0, 0, 0, 0, 99, 0), (112, 3, 3, .getfield 19, 8, 5, 1, 4, 170), (115, 2, 0, .iload 6, 0, 0, 0, 99, 0), (117, 1, 0, .aload_n 0, 0, 0, 0, 99, 0), (118, 1, 0, .iload_n 1, 0, 0, 0, 99, 0), (119, 1, 0, .iload_n 2, 0, 0, 0, 99, 0), (120, 2, 0, .iload 6, 0, 0, 0, 99, 0), (122, 1, 1, .iadd, 0, 0, 0, 99, 0), (123, 3, 4, .invokevirtual 105, 146, 3, 0, 5, 101), (126, 1, 3, .iastore, 0, 0, 0, 99, 0), (127, 3, 0, .iinc 6 1, 0, 0, 0, 99, 0), (130, 3, 2, .goto (-26), 0, 0, 0, 99, 0), (133, 1, 0, .iconst 0, 0, 0, 0, 99, 0), (134, 2, 0, .istore 6, 0, 0, 0, 99, 0), (136, 2, 0, .iload 6, 0, 0, 0, 99, 0), (138, 2, 0, .iload 5, 0, 0, 0, 99, 0), (140, 3, 2, .if_icmp .ge 31, 0, 0, 0, 99, 0), (143, 1, 0, .aload_n 0, 0, 0, 0, 99, 0), (144, 3, 3, .getfield 16, 8, 4, 1, 4, 169), (147, 2, 0, .bipush 48, 0, 0, 0, 99, 0), (149, 1, 0, .iload_n 3, 0, 0, 0, 99, 0), (150, 1, 1, .imul, 0, 0, 0, 99, 0), (151, 2, 0, .iload 4, 0, 0, 0, 99, 0), (153, 1, 1, .iadd, 0, 0, 0, 99, 0), (154, 2, 0, .iload 6, 0, 0, 0, 99, 0), (156, 1, 1, .iadd, 0, 0, 0, 99, 0), (157, 1, 0, .aload_n 0, 0, 0, 0, 99, 0), (158, 3, 3, .getfield 19, 8, 5, 1, 4, 170), (161, 2, 0, .iload 6, 0, 0, 0, 99, 0), (163, 1, 3, .iaload, 0, 0, 0, 99, 0), (164, 1, 3, .iastore, 0, 0, 0, 99, 0), (165, 3, 0, .iinc 6 1, 0, 0, 0, 99, 0), (168, 3, 2, .goto (-32), 0, 0, 0, 99, 0), (171, 1, 0, .iconst 1, 0, 0, 0, 99, 0), (172, 1, 2, .ireturn, 0, 0, 0, 99, 0)]
def pgX8_mean : List (Nat × Nat × z_En) := [(0, 1, 0, .iload_n 1, 0, 0, 0, 99, 0), (1, 3, 4, .invokestatic 97, 145, 1, 1, 5, 90), (4, 3, 2, .ifCond .ne 5, 0, 0, 0, 99, 0), (7, 1, 0, .iconst (-1), 0, 0, 0, 99, 0), (8, 1, 2, .ireturn, 0, 0, 0, 99, 0), (9, 1, 0, .aload_n 0, 0, 0, 0, 99, 0), (10, 3, 3, .getfield 13, 8, 3, 1, 4, 168), (13, 1, 0, .iload_n 1, 0, 0, 0, 99, 0), (14, 1, 3, .iaload, 0, 0, 0, 99, 0), (15, 3, 2, .ifCond .ge 9, 0, 0, 0, 99, 0), (18, 1, 0, .aload_n 0, 0, 0, 0, 99, 0), (19, 1, 0, .iconst 1, 0, 0, 0, 99, 0), (20, 3, 4, .invokevirtual 101, 140, 2, 0, 5, 93), (23, 1, 2, .ireturn, 0, 0, 0, 99, 0), (24, 1, 0, .aload_n 0, 0, 0, 0, 99, 0), (25, 3, 3, .getfield 13, 8, 3, 1, 4, 168), (28, 1, 0, .iload_n 1, 0, 0, 0, 99, 0), (29, 1, 3, .iaload, 0, 0, 0, 99, 0), (30, 3, 2, .ifCond .ne 9, 0, 0, 0, 99, 0), (33, 1, 0, .aload_n 0, 0, 0, 0, 99, 0), (34, 1, 0, .iconst 4, 0, 0, 0, 99, 0), (35, 3, 4, .invokevirtual 101, 140, 2, 0, 5, 93), (38, 1, 2, .ireturn, 0, 0, 0, 99, 0), (39, 1, 0, .lconst 0, 0, 0, 0, 99, 0), (40, 1, 0, .lstore_n 2, 0, 0, 0, 99, 0), (41, 1, 0, .iconst 0, 0, 0, 0, 99, 0), (42, 2, 0, .istore 4, 0, 0, 0, 99, 0), (44, 2, 0, .iload 4, 0, 0, 0, 99, 0), (46, 1, 0, .aload_n 0, 0, 0, 0, 99, 0), (47, 3, 3, .getfield 13, 8, 3, 1, 4, 168), (50, 1, 0, .iload_n 1, 0, 0, 0, 99, 0), (51, 1, 3, .iaload, 0, 0, 0, 99, 0), (52, 3, 2, .if_icmp .ge 20, 0, 0, 0, 99, 0), (55, 1, 0, .lload_n 2, 0, 0, 0, 99, 0), (56, 1, 0, .aload_n 0, 0, 0, 0, 99, 0), (57, 1, 0, .iload_n 1, 0, 0, 0, 99, 0), (58, 2, 0, .iload 4, 0, 0, 0, 99, 0), (60, 3, 4, .invokevirtual 105, 146, 3, 0, 5, 101), (63, 1, 1, .i2l, 0, 0, 0, 99, 0), (64, 1, 1, .ladd, 0, 0, 0, 99, 0), (65, 1, 0, .lstore_n 2, 0, 0, 0, 99, 0), (66, 3, 0, .iinc 4 1, 0, 0, 0, 99, 0), (69, 3, 2, .goto (-25), 0, 0, 0, 99, 0), (72, 1, 0, .aload_n 0, 0, 0, 0, 99, 0), (73, 1, 0, .lload_n 2, 0, 0, 0, 99, 0), (74, 1, 0, .aload_n 0, 0, 0, 0, 99, 0), (75, 3, 3, .getfield 13, 8, 3, 1, 4, 168), (78, 1, 0, .iload_n 1, 0, 0, 0, 99, 0), (79, 1, 3, .iaload, 0, 0, 0, 99, 0), (80, 1, 1, .i2l, 0, 0, 0, 99, 0), (81, 1, 1, .ldiv, 0, 0, 0, 99, 0), (82, 1, 1, .l2i, 0, 0, 0, 99, 0), (83, 1, 0, .iconst 1, 0, 0, 0, 99, 0), (84, 3, 4, .invokevirtual 109, 143, 3, 0, 5, 105), (87, 1, 2, .ireturn, 0, 0, 0, 99, 0)]
def pgX8_isText : List (Nat × Nat × z_En) := [(0, 1, 0, .iload_n 0, 0, 0, 0, 99, 0), (1, 1, 0, .iconst 0, 0, 0, 0, 99, 0), (2, 1, 0, .iconst 3, 0, 0, 0, 99, 0), (3, 3, 4, .invokestatic 90, 136, 3, 1, 5, 79), (6, 1, 2, .ireturn, 0, 0, 3, 99, 0)]
def pgX8_text : List (Nat × Nat × z_En) := [(0, 1, 0, .iload_n 1, 0, 0, 0, 99, 0), (1, 3, 4, .invokestatic 112, 153, 1, 1, 5, 129), (4, 3, 2, .ifCond .eq 9, 0, 0, 0, 99, 0), (7, 1, 0, .iload_n 2, 0, 0, 0, 99, 0), (8, 2, 0, .bipush 120, 0, 0, 0, 99, 0), (10, 3, 2, .if_icmp .le 5, 0, 0, 0, 99, 0), (13, 1, 0, .iconst (-1), 0, 0, 0, 99, 0), (14, 1, 2, .ireturn, 0, 0, 0, 99, 0), (15, 1, 0, .iload_n 2, 0, 0, 0, 99, 0), (16, 3, 2, .ifCond .ge 9, 0, 0, 0, 99, 0), (19, 1, 0, .aload_n 0, 0, 0, 0, 99, 0), (20, 1, 0, .iconst 5, 0, 0, 0, 99, 0), (21, 3, 4, .invokevirtual 101, 140, 2, 0, 5, 93), (24, 1, 2, .ireturn, 0, 0, 0, 99, 0), (25, 1, 0, .aload_n 0, 0, 0, 0, 99, 0), (26, 3, 3, .getfield 22, 8, 6, 1, 4, 171), (29, 1, 0, .iload_n 1, 0, 0, 0, 99, 0), (30, 1, 0, .iload_n 2, 0, 0, 0, 99, 0), (31, 1, 3, .iastore, 0, 0, 0, 99, 0), (32, 1, 0, .iconst 0, 0, 0, 0, 99, 0), (33, 1, 0, .istore_n 3, 0, 0, 0, 99, 0), (34, 1, 0, .iload_n 3, 0, 0, 0, 99, 0), (35, 2, 0, .bipush 120, 0, 0, 0, 99, 0), (37, 3, 2, .if_icmp .ge 22, 0, 0, 0, 99, 0), (40, 1, 0, .aload_n 0, 0, 0, 0, 99, 0), (41, 3, 3, .getfield 25, 8, 7, 1, 4, 172), (44, 2, 0, .bipush 120, 0, 0, 0, 99, 0), (46, 1, 0, .iload_n 1, 0, 0, 0, 99, 0), (47, 1, 1, .imul, 0, 0, 0, 99, 0), (48, 1, 0, .iload_n 3, 0, 0, 0, 99, 0), (49, 1, 1, .iadd, 0, 0, 0, 99, 0), (50, 2, 0, .bipush 32, 0, 0, 0, 99, 0), (52, 1, 3, .bastore, 12, 0, 0, 99, 0), (53, 3, 0, .iinc 3 1, 0, 0, 0, 99, 0), (56, 3, 2, .goto (-22), 0, 0, 0, 99, 0), (59, 1, 0, .iload_n 2, 0, 0, 0, 99, 0), (60, 1, 2, .ireturn, 0, 0, 0, 99, 0)]
def pgX8_put : List (Nat × Nat × z_En) := [(0, 1, 0, .iload_n 1, 0, 0, 0, 99, 0), (1, 3, 4, .invokestatic 112, 153, 1, 1, 5, 129), (4, 3, 2, .ifCond .ne 5, 0, 0, 0, 99, 0), (7, 1, 0, .iconst (-1), 0, 0, 0, 99, 0), (8, 1, 2, .ireturn, 0, 0, 0, 99, 0), (9, 1, 0, .aload_n 0, 0, 0, 0, 99, 0), (10, 3, 3, .getfield 22, 8, 6, 1, 4, 171), (13, 1, 0, .iload_n 1, 0, 0, 0, 99, 0), (14, 1, 3, .iaload, 0, 0, 0, 99, 0), (15, 3, 2, .ifCond .ge 9, 0, 0, 0, 99, 0), (18, 1, 0, .aload_n 0, 0, 0, 0, 99, 0), (19, 1, 0, .iconst 1, 0, 0, 0, 99, 0), (20, 3, 4, .invokevirtual 101, 140, 2, 0, 5, 93), (23, 1, 2, .ireturn, 0, 0, 0, 99, 0), (24, 1, 0, .iload_n 2, 0, 0, 0, 99, 0), (25, 1, 0, .iconst 0, 0, 0, 0, 99, 0), (26, 1, 0, .aload_n 0, 0, 0, 0, 99, 0), (27, 3, 3, .getfield 22, 8, 6, 1, 4, 171), (30, 1, 0, .iload_n 1, 0, 0, 0, 99, 0), (31, 1, 3, .iaload, 0, 0, 0, 99, 0), (32, 1, 0, .iconst 1, 0, 0, 0, 99, 0), (33, 1, 1, .isub, 0, 0, 0, 99, 0), (34, 3, 4, .invokestatic 90, 136, 3, 1, 5, 79), (37, 3, 2, .ifCond .ne 9, 0, 0, 0, 99, 0), (40, 1, 0, .aload_n 0, 0, 0, 0, 99, 0), (41, 1, 0, .iconst 2, 0, 0, 0, 99, 0), (42, 3, 4, .invokevirtual 101, 140, 2, 0, 5, 93), (45, 1, 2, .ireturn, 0, 0, 0, 99, 0), (46, 1, 0, .aload_n 0, 0, 0, 0, 99, 0), (47, 3, 3, .getfield 25, 8, 7, 1, 4, 172), (50, 2, 0, .bipush 120, 0, 0, 0, 99, 0), (52, 1, 0, .iload_n 1, 0, 0, 0, 99, 0), (53, 1, 1, .imul, 0, 0, 0, 99, 0), (54, 1, 0, .iload_n 2, 0, 0, 0, 99, 0), (55, 1, 1, .iadd, 0, 0, 0, 99, 0), (56, 1, 3, .baload, 12, 0, 0, 99, 0), (57, 2, 0, .istore 4, 0, 0, 0, 99, 0), (59, 1, 0, .aload_n 0, 0, 0, 0, 99, 0), (60, 3, 3, .getfield 25, 8, 7, 1, 4, 172), (63, 2, 0, .bipush 120, 0, 0, 0, 99, 0), (65, 1, 0, .iload_n 1, 0, 0, 0, 99, 0), (66, 1, 1, .imul, 0, 0, 0, 99, 0), (67, 1, 0, .iload_n 2, 0, 0, 0, 99, 0), (68, 1, 1, .iadd, 0, 0, 0, 99, 0), (69, 1, 0, .iload_n 3, 0, 0, 0, 99, 0), (70, 1, 1, .i2b, 0, 0, 0, 99, 0), (71, 1, 3, .bastore, 12, 0, 0, 99, 0), (72, 3, 0, .sipush 1000, 0, 0, 0, 99, 0), (75, 2, 0, .iload 4, 0, 0, 0, 99, 0), (77, 1, 1, .iadd, 0, 0, 0, 99, 0), (78, 1, 2, .ireturn, 0, 0, 0, 99, 0)]
def pgX8_byteAt : List (Nat × Nat × z_En) := [(0, 1, 0, .iload_n 2, 0, 0, 0, 99, 0), (1, 1, 0, .aload_n 0, 0, 0, 0, 99, 0), (2, 3, 3, .getfield 22, 8, 6, 1, 4, 171), (5, 1, 0, .iload_n 1, 0, 0, 0, 99, 0), (6, 1, 3, .iaload, 0, 0, 0, 99, 0), (7, 3, 2, .if_icmp .ge 17, 0, 0, 0, 99, 0), (10, 1, 0, .aload_n 0, 0, 0, 0, 99, 0), (11, 3, 3, .getfield 25, 8, 7, 1, 4, 172), (14, 2, 0, .bipush 120, 0, 0, 0, 99, 0), (16, 1, 0, .iload_n 1, 0, 0, 0, 99, 0), (17, 1, 1, .imul, 0, 0, 0, 99, 0), (18, 1, 0, .iload_n 2, 0, 0, 0, 99, 0), (19, 1, 1, .iadd, 0, 0, 0, 99, 0), (20, 1, 3, .baload, 12, 0, 0, 99, 0), (21, 3, 2, .goto 4, 0, 0, 0, 99, 0), (24, 1, 0, .iconst 0, 0, 0, 0, 99, 0), (25, 1, 2, .ireturn, 0, 0, 0, 99, 0)]
def pgX8_sign : List (Nat × Nat × z_En) := [(0, 1, 0, .aload_n 0, 0, 0, 0, 99, 0), (1, 1, 0, .iload_n 1, 0, 0, 0, 99, 0), (2, 1, 0, .aload_n 0, 0, 0, 0, 99, 0), (3, 3, 3, .getfield 115, 8, 19, 0, 4, 184), (6, 3, 4, .invokevirtual 118, 156, 3, 0, 5, 144), (9, 1, 0, .iload_n 2, 0, 0, 0, 99, 0), (10, 3, 2, .if_icmp .ne 7, 0, 0, 0, 99, 0), (13, 1, 0, .iconst 1, 0, 0, 0, 99, 0), (14, 3, 2, .goto 4, 0, 0, 0, 99, 0), (17, 1, 0, .iconst 0, 0, 0, 0, 99, 0), (18, 1, 0, .istore_n 3, 0, 0, 0, 99, 0), (19, 1, 0, .aload_n 0, 0, 0, 0, 99, 0), (20, 1, 0, .dup, 0, 0, 0, 99, 0), (21, 3, 3, .getfield 115, 8, 19, 0, 4, 184), (24, 1, 0, .iload_n 3, 0, 0, 0, 99, 0), (25, 3, 2, .ifCond .eq 7, 0, 0, 0, 99, 0), (28, 1, 0, .iconst 1, 0, 0, 0, 99, 0), (29, 3, 2, .goto 4, 0, 0, 0, 99, 0), (32, 1, 0, .iconst 0, 0, 0, 0, 99, 0), (33, 1, 1, .iadd, 0, 0, 0, 99, 0), (34, 3, 3, .putfield 115, 8, 19, 0, 4, 184), (37, 1, 0, .iload_n 3, 0, 0, 0, 99, 0), (38, 1, 2, .ireturn, 0, 0, 3, 99, 0)]
def pgX8_figure : List (Nat × Nat × z_En) := [(0, 1, 0, .aload_n 0, 0, 0, 0, 99, 0), (1, 1, 0, .aload_n 0, 0, 0, 0, 99, 0), (2, 1, 0, .iload_n 1, 0, 0, 0, 99, 0), (3, 1, 0, .aload_n 0, 0, 0, 0, 99, 0), (4, 3, 3, .getfield 115, 8, 19, 0, 4, 184), (7, 3, 4, .invokevirtual 118, 156, 3, 0, 5, 144), (10, 2, 0, .bipush 48, 0, 0, 0, 99, 0), (12, 1, 1, .isub, 0, 0, 0, 99, 0), (13, 3, 3, .putfield 121, 8, 20, 0, 4, 185), (16, 1, 0, .aload_n 0, 0, 0, 0, 99, 0), (17, 3, 3, .getfield 121, 8, 20, 0, 4, 185), (20, 1, 0, .iconst 0, 0, 0, 0, 99, 0), (21, 2, 0, .bipush 9, 0, 0, 0, 99, 0), (23, 3, 4, .invokestatic 90, 136, 3, 1, 5, 79), (26, 3, 2, .ifCond .eq 19, 0, 0, 0, 99, 0), (29, 1, 0, .aload_n 0, 0, 0, 0, 99, 0), (30, 3, 3, .getfield 121, 8, 20, 0, 4, 185), (33, 1, 0, .iload_n 2, 0, 0, 0, 99, 0), (34, 1, 0, .iload_n 3, 0, 0, 0, 99, 0), (35, 3, 4, .invokestatic 90, 136, 3, 1, 5, 79), (38, 3, 2, .ifCond .eq 7, 0, 0, 0, 99, 0), (41, 1, 0, .iconst 1, 0, 0, 0, 99, 0), (42, 3, 2, .goto 4, 0, 0, 0, 99, 0), (45, 1, 0, .iconst 0, 0, 0, 0, 99, 0), (46, 2, 0, .istore 4, 0, 0, 0, 99, 0), (48, 1, 0, .aload_n 0, 0, 0, 0, 99, 0), (49, 1, 0, .dup, 0, 0, 0, 99, 0), (50, 3, 3, .getfield 115, 8, 19, 0, 4, 184), (53, 2, 0, .iload 4, 0, 0, 0, 99, 0), (55, 3, 2, .ifCond .eq 7, 0, 0, 0, 99, 0), (58, 1, 0, .iconst 1, 0, 0, 0, 99, 0), (59, 3, 2, .goto 4, 0, 0, 0, 99, 0), (62, 1, 0, .iconst 0, 0, 0, 0, 99, 0), (63, 1, 1, .iadd, 0, 0, 0, 99, 0), (64, 3, 3, .putfield 115, 8, 19, 0, 4, 184), (67, 2, 0, .iload 4, 0, 0, 0, 99, 0), (69, 1, 2, .ireturn, 0, 0, 3, 99, 0)]
def pgX8_minute : List (Nat × Nat × z_En) := [(0, 1, 0, .iconst 0, 0, 0, 0, 99, 0), (1, 2, 0, .istore 4, 0, 0, 0, 99, 0), (3, 1, 0, .iconst 0, 0, 0, 0, 99, 0), (4, 2, 0, .istore 5, 0, 0, 0, 99, 0), (6, 2, 0, .iload 4, 0, 0, 0, 99, 0), (8, 1, 0, .iconst 2, 0, 0, 0, 99, 0), (9, 3, 2, .if_icmp .ge 58, 0, 0, 0, 99, 0), (12, 1, 0, .aload_n 0, 0, 0, 0, 99, 0), (13, 1, 0, .iload_n 1, 0, 0, 0, 99, 0), (14, 1, 0, .aload_n 0, 0, 0, 0, 99, 0), (15, 3, 3, .getfield 115, 8, 19, 0, 4, 184), (18, 3, 4, .invokevirtual 118, 156, 3, 0, 5, 144), (21, 2, 0, .bipush 48, 0, 0, 0, 99, 0), (23, 2, 0, .bipush 57, 0, 0, 0, 99, 0), (25, 3, 4, .invokestatic 90, 136, 3, 1, 5, 79), (28, 3, 2, .ifCond .eq 39, 0, 0, 0, 99, 0), (31, 2, 0, .bipush 10, 0, 0, 0, 99, 0), (33, 2, 0, .iload 5, 0, 0, 0, 99, 0), (35, 1, 1, .imul, 0, 0, 0, 99, 0), (36, 1, 0, .aload_n 0, 0, 0, 0, 99, 0), (37, 1, 0, .iload_n 1, 0, 0, 0, 99, 0), (38, 1, 0, .aload_n 0, 0, 0, 0, 99, 0), (39, 3, 3, .getfield 115, 8, 19, 0, 4, 184), (42, 3, 4, .invokevirtual 118, 156, 3, 0, 5, 144), (45, 1, 1, .iadd, 0, 0, 0, 99, 0), (46, 2, 0, .bipush 48, 0, 0, 0, 99, 0), (48, 1, 1, .isub, 0, 0, 0, 99, 0), (49, 2, 0, .istore 5, 0, 0, 0, 99, 0), (51, 1, 0, .aload_n 0, 0, 0, 0, 99, 0), (52, 1, 0, .dup, 0, 0, 0, 99, 0), (53, 3, 3, .getfield 115, 8, 19, 0, 4, 184), (56, 1, 0, .iconst 1, 0, 0, 0, 99, 0), (57, 1, 1, .iadd, 0, 0, 0, 99, 0), (58, 3, 3, .putfield 115, 8, 19, 0, 4, 184), (61, 3, 0, .iinc 4 1, 0, 0, 0, 99, 0), (64, 3, 2, .goto (-58), 0, 0, 0, 99, 0), (67, 1, 0, .aload_n 0, 0, 0, 0, 99, 0), (68, 2, 0, .iload 5, 0, 0, 0, 99, 0), (70, 3, 3, .putfield 121, 8, 20, 0, 4, 185), (73, 2, 0, .iload 4, 0, 0, 0, 99, 0), (75, 3, 2, .ifCond .le 17, 0, 0, 0, 99, 0), (78, 2, 0, .iload 5, 0, 0, 0, 99, 0), (80, 1, 0, .iload_n 2, 0, 0, 0, 99, 0), (81, 1, 0, .iload_n 3, 0, 0, 0, 99, 0), (82, 3, 4, .invokestatic 90, 136, 3, 1, 5, 79), (85, 3, 2, .ifCond .eq 7, 0, 0, 0, 99, 0), (88, 1, 0, .iconst 1, 0, 0, 0, 99, 0), (89, 3, 2, .goto 4, 0, 0, 0, 99, 0), (92, 1, 0, .iconst 0, 0, 0, 0, 99, 0), (93, 1, 2, .ireturn, 0, 0, 3, 99, 0)]
def pgX8_readsLast : List (Nat × Nat × z_En) := [(0, 1, 0, .aload_n 0, 0, 0, 0, 99, 0), (1, 1, 0, .dup, 0, 0, 0, 99, 0), (2, 3, 3, .getfield 115, 8, 19, 0, 4, 184), (5, 1, 0, .iconst 1, 0, 0, 0, 99, 0), (6, 1, 1, .iadd, 0, 0, 0, 99, 0), (7, 3, 3, .putfield 115, 8, 19, 0, 4, 184), (10, 1, 0, .aload_n 0, 0, 0, 0, 99, 0), (11, 1, 0, .iload_n 1, 0, 0, 0, 99, 0), (12, 1, 0, .iconst 1, 0, 0, 0, 99, 0), (13, 2, 0, .bipush 60, 0, 0, 0, 99, 0), (15, 3, 4, .invokevirtual 124, 159, 4, 0, 5, 156), (18, 1, 0, .istore_n 2, 0, 0, 0, 99, 0), (19, 1, 0, .aload_n 0, 0, 0, 0, 99, 0), (20, 1, 0, .aload_n 0, 0, 0, 0, 99, 0), (21, 3, 3, .getfield 121, 8, 20, 0, 4, 185), (24, 3, 3, .putfield 127, 8, 21, 0, 4, 186), (27, 1, 0, .iload_n 2, 0, 0, 0, 99, 0), (28, 1, 2, .ireturn, 0, 0, 3, 99, 0)]
def pgX8_readsPart : List (Nat × Nat × z_En) := [(0, 1, 0, .aload_n 0, 0, 0, 0, 99, 0), (1, 3, 3, .getfield 130, 8, 22, 0, 4, 187), (4, 2, 0, .bipush 6, 0, 0, 0, 99, 0), (6, 3, 2, .if_icmp .ne 5, 0, 0, 0, 99, 0), (9, 1, 0, .iconst 0, 0, 0, 0, 99, 0), (10, 1, 2, .ireturn, 0, 0, 3, 99, 0), (11, 1, 0, .aload_n 0, 0, 0, 0, 99, 0), (12, 1, 0, .dup, 0, 0, 0, 99, 0), (13, 3, 3, .getfield 115, 8, 19, 0, 4, 184), (16, 1, 0, .iconst 1, 0, 0, 0, 99, 0), (17, 1, 1, .iadd, 0, 0, 0, 99, 0), (18, 3, 3, .putfield 115, 8, 19, 0, 4, 184), (21, 1, 0, .aload_n 0, 0, 0, 0, 99, 0), (22, 1, 0, .iload_n 1, 0, 0, 0, 99, 0), (23, 1, 0, .iconst 1, 0, 0, 0, 99, 0), (24, 1, 0, .iconst 2, 0, 0, 0, 99, 0), (25, 3, 4, .invokevirtual 133, 158, 4, 0, 5, 164), (28, 3, 2, .ifCond .ne 5, 0, 0, 0, 99, 0), (31, 1, 0, .iconst 0, 0, 0, 0, 99, 0), (32, 1, 2, .ireturn, 0, 0, 3, 99, 0), (33, 1, 0, .iconst 3, 0, 0, 0, 99, 0), (34, 1, 0, .aload_n 0, 0, 0, 0, 99, 0), (35, 3, 3, .getfield 130, 8, 22, 0, 4, 187), (38, 1, 1, .imul, 0, 0, 0, 99, 0), (39, 1, 0, .istore_n 2, 0, 0, 0, 99, 0), (40, 1, 0, .aload_n 0, 0, 0, 0, 99, 0), (41, 3, 3, .getfield 44, 8, 27, 1, 4, 192), (44, 1, 0, .iload_n 2, 0, 0, 0, 99, 0), (45, 1, 0, .aload_n 0, 0, 0, 0, 99, 0), (46, 3, 3, .getfield 121, 8, 20, 0, 4, 185), (49, 1, 3, .iastore, 0, 0, 0, 99, 0), (50, 1, 0, .aload_n 0, 0, 0, 0, 99, 0), (51, 3, 3, .getfield 44, 8, 27, 1, 4, 192), (54, 1, 0, .iload_n 2, 0, 0, 0, 99, 0), (55, 1, 0, .iconst 1, 0, 0, 0, 99, 0), (56, 1, 1, .iadd, 0, 0, 0, 99, 0), (57, 1, 0, .iconst 0, 0, 0, 0, 99, 0), (58, 1, 3, .iastore, 0, 0, 0, 99, 0), (59, 1, 0, .aload_n 0, 0, 0, 0, 99, 0), (60, 3, 3, .getfield 44, 8, 27, 1, 4, 192), (63, 1, 0, .iload_n 2, 0, 0, 0, 99, 0), (64, 1, 0, .iconst 2, 0, 0, 0, 99, 0), (65, 1, 1, .iadd, 0, 0, 0, 99, 0), (66, 1, 0, .iconst 0, 0, 0, 0, 99, 0), (67, 1, 3, .iastore, 0, 0, 0, 99, 0), (68, 1, 0, .aload_n 0, 0, 0, 0, 99, 0), (69, 1, 0, .iload_n 1, 0, 0, 0, 99, 0), (70, 2, 0, .bipush 58, 0, 0, 0, 99, 0), (72, 3, 4, .invokevirtual 136, 157, 3, 0, 5, 168), (75, 3, 2, .ifCond .eq 28, 0, 0, 0, 99, 0), (78, 1, 0, .aload_n 0, 0, 0, 0, 99, 0), (79, 1, 0, .iload_n 1, 0, 0, 0, 99, 0), (80, 1, 0, .iconst 0, 0, 0, 0, 99, 0), (81, 2, 0, .bipush 59, 0, 0, 0, 99, 0), (83, 3, 4, .invokevirtual 124, 159, 4, 0, 5, 156), (86, 3, 2, .ifCond .ne 5, 0, 0, 0, 99, 0), (89, 1, 0, .iconst 0, 0, 0, 0, 99, 0), (90, 1, 2, .ireturn, 0, 0, 3, 99, 0), (91, 1, 0, .aload_n 0, 0, 0, 0, 99, 0), (92, 3, 3, .getfield 44, 8, 27, 1, 4, 192), (95, 1, 0, .iload_n 2, 0, 0, 0, 99, 0), (96, 1, 0, .iconst 1, 0, 0, 0, 99, 0), (97, 1, 1, .iadd, 0, 0, 0, 99, 0), (98, 1, 0, .aload_n 0, 0, 0, 0, 99, 0), (99, 3, 3, .getfield 121, 8, 20, 0, 4, 185), (102, 1, 3, .iastore, 0, 0, 0, 99, 0), (103, 1, 0, .aload_n 0, 0, 0, 0, 99, 0), (104, 1, 0, .iload_n 1, 0, 0, 0, 99, 0), (105, 2, 0, .bipush 115, 0, 0, 0, 99, 0), (107, 3, 4, .invokevirtual 136, 157, 3, 0, 5, 168), (110, 3, 2, .ifCond .eq 28, 0, 0, 0, 99, 0), (113, 1, 0, .aload_n 0, 0, 0, 0, 99, 0), (114, 1, 0, .iload_n 1, 0, 0, 0, 99, 0), (115, 1, 0, .iconst 0, 0, 0, 0, 99, 0), (116, 2, 0, .bipush 9, 0, 0, 0, 99, 0), (118, 3, 4, .invokevirtual 133, 158, 4, 0, 5, 164), (121, 3, 2, .ifCond .ne 5, 0, 0, 0, 99, 0), (124, 1, 0, .iconst 0, 0, 0, 0, 99, 0), (125, 1, 2, .ireturn, 0, 0, 3, 99, 0), (126, 1, 0, .aload_n 0, 0, 0, 0, 99, 0), (127, 3, 3, .getfield 44, 8, 27, 1, 4, 192), (130, 1, 0, .iload_n 2, 0, 0, 0, 99, 0), (131, 1, 0, .iconst 2, 0, 0, 0, 99, 0), (132, 1, 1, .iadd, 0, 0, 0, 99, 0), (133, 1, 0, .aload_n 0, 0, 0, 0, 99, 0), (134, 3, 3, .getfield 121, 8, 20, 0, 4, 185), (137, 1, 3, .iastore, 0, 0, 0, 99, 0), (138, 1, 0, .aload_n 0, 0, 0, 0, 99, 0), (139, 1, 0, .dup, 0, 0, 0, 99, 0), (140, 3, 3, .getfield 130, 8, 22, 0, 4, 187), (143, 1, 0, .iconst 1, 0, 0, 0, 99, 0), (144, 1, 1, .iadd, 0, 0, 0, 99, 0), (145, 3, 3, .putfield 130, 8, 22, 0, 4, 187), (148, 1, 0, .iconst 1, 0, 0, 0, 99, 0), (149, 1, 2, .ireturn, 0, 0, 3, 99, 0)]
def pgX8_readsReader : List (Nat × Nat × z_En) := [(0, 1, 0, .aload_n 0, 0, 0, 0, 99, 0), (1, 3, 3, .getfield 140, 8, 23, 0, 4, 188), (4, 2, 0, .bipush 8, 0, 0, 0, 99, 0), (6, 3, 2, .if_icmp .ne 5, 0, 0, 0, 99, 0), (9, 1, 0, .iconst 0, 0, 0, 0, 99, 0), (10, 1, 2, .ireturn, 0, 0, 3, 99, 0), (11, 1, 0, .aload_n 0, 0, 0, 0, 99, 0), (12, 1, 0, .dup, 0, 0, 0, 99, 0), (13, 3, 3, .getfield 115, 8, 19, 0, 4, 184), (16, 1, 0, .iconst 1, 0, 0, 0, 99, 0), (17, 1, 1, .iadd, 0, 0, 0, 99, 0), (18, 3, 3, .putfield 115, 8, 19, 0, 4, 184), (21, 1, 0, .aload_n 0, 0, 0, 0, 99, 0), (22, 1, 0, .iload_n 1, 0, 0, 0, 99, 0), (23, 1, 0, .iconst 0, 0, 0, 0, 99, 0), (24, 2, 0, .bipush 60, 0, 0, 0, 99, 0), (26, 3, 4, .invokevirtual 124, 159, 4, 0, 5, 156), (29, 3, 2, .ifCond .ne 5, 0, 0, 0, 99, 0), (32, 1, 0, .iconst 0, 0, 0, 0, 99, 0), (33, 1, 2, .ireturn, 0, 0, 3, 99, 0), (34, 1, 0, .aload_n 0, 0, 0, 0, 99, 0), (35, 3, 3, .getfield 121, 8, 20, 0, 4, 185), (38, 1, 0, .istore_n 2, 0, 0, 0, 99, 0), (39, 1, 0, .aload_n 0, 0, 0, 0, 99, 0), (40, 1, 0, .iload_n 1, 0, 0, 0, 99, 0), (41, 2, 0, .bipush 45, 0, 0, 0, 99, 0), (43, 3, 4, .invokevirtual 136, 157, 3, 0, 5, 168), (46, 3, 2, .ifCond .eq 16, 0, 0, 0, 99, 0), (49, 1, 0, .aload_n 0, 0, 0, 0, 99, 0), (50, 1, 0, .iload_n 1, 0, 0, 0, 99, 0), (51, 1, 0, .iload_n 2, 0, 0, 0, 99, 0), (52, 1, 0, .iconst 1, 0, 0, 0, 99, 0), (53, 1, 1, .iadd, 0, 0, 0, 99, 0), (54, 2, 0, .bipush 60, 0, 0, 0, 99, 0), (56, 3, 4, .invokevirtual 124, 159, 4, 0, 5, 156), (59, 3, 2, .ifCond .ne 5, 0, 0, 0, 99, 0), (62, 1, 0, .iconst 0, 0, 0, 0, 99, 0), (63, 1, 2, .ireturn, 0, 0, 3, 99, 0), (64, 1, 0, .iconst 3, 0, 0, 0, 99, 0), (65, 1, 0, .aload_n 0, 0, 0, 0, 99, 0), (66, 3, 3, .getfield 140, 8, 23, 0, 4, 188), (69, 1, 1, .imul, 0, 0, 0, 99, 0), (70, 1, 0, .istore_n 3, 0, 0, 0, 99, 0), (71, 1, 0, .aload_n 0, 0, 0, 0, 99, 0), (72, 3, 3, .getfield 47, 8, 28, 1, 4, 193), (75, 1, 0, .iload_n 3, 0, 0, 0, 99, 0), (76, 1, 0, .iload_n 2, 0, 0, 0, 99, 0), (77, 1, 3, .iastore, 0, 0, 0, 99, 0), (78, 1, 0, .aload_n 0, 0, 0, 0, 99, 0), (79, 3, 3, .getfield 47, 8, 28, 1, 4, 193), (82, 1, 0, .iload_n 3, 0, 0, 0, 99, 0), (83, 1, 0, .iconst 1, 0, 0, 0, 99, 0), (84, 1, 1, .iadd, 0, 0, 0, 99, 0), (85, 1, 0, .aload_n 0, 0, 0, 0, 99, 0), (86, 3, 3, .getfield 121, 8, 20, 0, 4, 185), (89, 1, 3, .iastore, 0, 0, 0, 99, 0), (90, 1, 0, .aload_n 0, 0, 0, 0, 99, 0), (91, 1, 0, .iload_n 1, 0, 0, 0, 99, 0), (92, 2, 0, .bipush 40, 0, 0, 0, 99, 0), (94, 3, 4, .invokevirtual 136, 157, 3, 0, 5, 168), (97, 3, 2, .ifCond .ne 5, 0, 0, 0, 99, 0), (100, 1, 0, .iconst 0, 0, 0, 0, 99, 0), (101, 1, 2, .ireturn, 0, 0, 3, 99, 0), (102, 1, 0, .aload_n 0, 0, 0, 0, 99, 0), (103, 3, 3, .getfield 47, 8, 28, 1, 4, 193), (106, 1, 0, .iload_n 3, 0, 0, 0, 99, 0), (107, 1, 0, .iconst 2, 0, 0, 0, 99, 0), (108, 1, 1, .iadd, 0, 0, 0, 99, 0), (109, 1, 0, .aload_n 0, 0, 0, 0, 99, 0), (110, 1, 0, .iload_n 1, 0, 0, 0, 99, 0), (111, 2, 0, .bipush 33, 0, 0, 0, 99, 0), (113, 3, 4, .invokevirtual 136, 157, 3, 0, 5, 168), (116, 3, 2, .ifCond .eq 7, 0, 0, 0, 99, 0), (119, 1, 0, .iconst 1, 0, 0, 0, 99, 0), (120, 3, 2, .goto 4, 0, 0, 0, 99, 0), (123, 1, 0, .iconst 0, 0, 0, 0, 99, 0), (124, 1, 3, .iastore, 0, 0, 0, 99, 0), (125, 1, 0, .iconst 0, 0, 0, 0, 99, 0), (126, 2, 0, .istore 4, 0, 0, 0, 99, 0), (128, 1, 0, .iconst 1, 0, 0, 0, 99, 0), (129, 2, 0, .istore 5, 0, 0, 0, 99, 0), (131, 2, 0, .iload 5, 0, 0, 0, 99, 0), (133, 3, 2, .ifCond .eq 84, 0, 0, 0, 99, 0), (136, 1, 0, .aload_n 0, 0, 0, 0, 99, 0), (137, 1, 0, .iload_n 1, 0, 0, 0, 99, 0), (138, 1, 0, .aload_n 0, 0, 0, 0, 99, 0), (139, 3, 3, .getfield 115, 8, 19, 0, 4, 184), (142, 3, 4, .invokevirtual 118, 156, 3, 0, 5, 144), (145, 2, 0, .bipush 48, 0, 0, 0, 99, 0), (147, 1, 1, .isub, 0, 0, 0, 99, 0), (148, 2, 0, .istore 6, 0, 0, 0, 99, 0), (150, 2, 0, .iload 6, 0, 0, 0, 99, 0), (152, 1, 0, .iconst 0, 0, 0, 0, 99, 0), (153, 1, 0, .aload_n 0, 0, 0, 0, 99, 0), (154, 3, 3, .getfield 130, 8, 22, 0, 4, 187), (157, 1, 0, .iconst 1, 0, 0, 0, 99, 0), (158, 1, 1, .isub, 0, 0, 0, 99, 0), (159, 3, 4, .invokestatic 90, 136, 3, 1, 5, 79), (162, 3, 2, .ifCond .eq 32, 0, 0, 0, 99, 0), (165, 2, 0, .iload 4, 0, 0, 0, 99, 0), (167, 2, 0, .iload 6, 0, 0, 0, 99, 0), (169, 3, 4, .invokestatic 143, 137, 2, 1, 5, 176), (172, 3, 2, .ifCond .ne 22, 0, 0, 0, 99, 0), (175, 1, 0, .aload_n 0, 0, 0, 0, 99, 0), (176, 3, 3, .getfield 146, 8, 24, 0, 4, 189), (179, 2, 0, .bipush 24, 0, 0, 0, 99, 0), (181, 3, 2, .if_icmp .eq 13, 0, 0, 0, 99, 0), (184, 1, 0, .aload_n 0, 0, 0, 0, 99, 0), (185, 1, 0, .iload_n 1, 0, 0, 0, 99, 0), (186, 2, 0, .iload 6, 0, 0, 0, 99, 0), (188, 3, 4, .invokevirtual 149, 163, 3, 0, 5, 179), (191, 3, 2, .ifCond .ne 5, 0, 0, 0, 99, 0), (194, 1, 0, .iconst 0, 0, 0, 0, 99, 0), (195, 1, 2, .ireturn, 0, 0, 3, 99, 0), (196, 2, 0, .iload 4, 0, 0, 0, 99, 0), (198, 1, 0, .iconst 1, 0, 0, 0, 99, 0), (199, 2, 0, .iload 6, 0, 0, 0, 99, 0), (201, 1, 1, .ishl, 0, 0, 0, 99, 0), (202, 1, 1, .ior, 0, 0, 0, 99, 0), (203, 2, 0, .istore 4, 0, 0, 0, 99, 0), (205, 1, 0, .aload_n 0, 0, 0, 0, 99, 0), (206, 1, 0, .iload_n 1, 0, 0, 0, 99, 0), (207, 2, 0, .bipush 44, 0, 0, 0, 99, 0), (209, 3, 4, .invokevirtual 136, 157, 3, 0, 5, 168), (212, 2, 0, .istore 5, 0, 0, 0, 99, 0), (214, 3, 2, .goto (-83), 0, 0, 0, 99, 0), (217, 1, 0, .aload_n 0, 0, 0, 0, 99, 0), (218, 1, 0, .iload_n 1, 0, 0, 0, 99, 0), (219, 2, 0, .bipush 41, 0, 0, 0, 99, 0), (221, 3, 4, .invokevirtual 136, 157, 3, 0, 5, 168), (224, 3, 2, .ifCond .ne 5, 0, 0, 0, 99, 0), (227, 1, 0, .iconst 0, 0, 0, 0, 99, 0), (228, 1, 2, .ireturn, 0, 0, 3, 99, 0), (229, 1, 0, .aload_n 0, 0, 0, 0, 99, 0), (230, 1, 0, .dup, 0, 0, 0, 99, 0), (231, 3, 3, .getfield 140, 8, 23, 0, 4, 188), (234, 1, 0, .iconst 1, 0, 0, 0, 99, 0), (235, 1, 1, .iadd, 0, 0, 0, 99, 0), (236, 3, 3, .putfield 140, 8, 23, 0, 4, 188), (239, 1, 0, .iconst 1, 0, 0, 0, 99, 0), (240, 1, 2, .ireturn, 0, 0, 3, 99, 0)]
def pgX8_readsWant : List (Nat × Nat × z_En) := [(0, 1, 0, .aload_n 0, 0, 0, 0, 99, 0), (1, 1, 0, .dup, 0, 0, 0, 99, 0), (2, 3, 3, .getfield 115, 8, 19, 0, 4, 184), (5, 1, 0, .iconst 1, 0, 0, 0, 99, 0), (6, 1, 1, .iadd, 0, 0, 0, 99, 0), (7, 3, 3, .putfield 115, 8, 19, 0, 4, 184), (10, 1, 0, .iconst 4, 0, 0, 0, 99, 0), (11, 1, 0, .aload_n 0, 0, 0, 0, 99, 0), (12, 3, 3, .getfield 146, 8, 24, 0, 4, 189), (15, 1, 1, .imul, 0, 0, 0, 99, 0), (16, 1, 0, .istore_n 3, 0, 0, 0, 99, 0), (17, 1, 0, .aload_n 0, 0, 0, 0, 99, 0), (18, 3, 3, .getfield 50, 8, 29, 1, 4, 194), (21, 1, 0, .iload_n 3, 0, 0, 0, 99, 0), (22, 1, 0, .aload_n 0, 0, 0, 0, 99, 0), (23, 3, 3, .getfield 140, 8, 23, 0, 4, 188), (26, 1, 3, .iastore, 0, 0, 0, 99, 0), (27, 1, 0, .aload_n 0, 0, 0, 0, 99, 0), (28, 3, 3, .getfield 50, 8, 29, 1, 4, 194), (31, 1, 0, .iload_n 3, 0, 0, 0, 99, 0), (32, 1, 0, .iconst 1, 0, 0, 0, 99, 0), (33, 1, 1, .iadd, 0, 0, 0, 99, 0), (34, 1, 0, .iload_n 2, 0, 0, 0, 99, 0), (35, 1, 3, .iastore, 0, 0, 0, 99, 0), (36, 1, 0, .aload_n 0, 0, 0, 0, 99, 0), (37, 1, 0, .iload_n 1, 0, 0, 0, 99, 0), (38, 2, 0, .bipush 42, 0, 0, 0, 99, 0), (40, 3, 4, .invokevirtual 136, 157, 3, 0, 5, 168), (43, 3, 2, .ifCond .eq 14, 0, 0, 0, 99, 0), (46, 1, 0, .aload_n 0, 0, 0, 0, 99, 0), (47, 1, 0, .iload_n 1, 0, 0, 0, 99, 0), (48, 1, 0, .iconst 1, 0, 0, 0, 99, 0), (49, 2, 0, .bipush 20, 0, 0, 0, 99, 0), (51, 3, 4, .invokevirtual 124, 159, 4, 0, 5, 156), (54, 3, 2, .ifCond .ne 5, 0, 0, 0, 99, 0), (57, 1, 0, .iconst 0, 0, 0, 0, 99, 0), (58, 1, 2, .ireturn, 0, 0, 3, 99, 0), (59, 1, 0, .aload_n 0, 0, 0, 0, 99, 0), (60, 3, 3, .getfield 50, 8, 29, 1, 4, 194), (63, 1, 0, .iload_n 3, 0, 0, 0, 99, 0), (64, 1, 0, .iconst 2, 0, 0, 0, 99, 0), (65, 1, 1, .iadd, 0, 0, 0, 99, 0), (66, 1, 0, .aload_n 0, 0, 0, 0, 99, 0), (67, 3, 3, .getfield 121, 8, 20, 0, 4, 185), (70, 1, 3, .iastore, 0, 0, 0, 99, 0), (71, 1, 0, .aload_n 0, 0, 0, 0, 99, 0), (72, 1, 0, .iload_n 1, 0, 0, 0, 99, 0), (73, 2, 0, .bipush 61, 0, 0, 0, 99, 0), (75, 3, 4, .invokevirtual 136, 157, 3, 0, 5, 168), (78, 3, 2, .ifCond .eq 14, 0, 0, 0, 99, 0), (81, 1, 0, .aload_n 0, 0, 0, 0, 99, 0), (82, 1, 0, .iload_n 1, 0, 0, 0, 99, 0), (83, 1, 0, .iconst 1, 0, 0, 0, 99, 0), (84, 2, 0, .bipush 9, 0, 0, 0, 99, 0), (86, 3, 4, .invokevirtual 133, 158, 4, 0, 5, 164), (89, 3, 2, .ifCond .ne 5, 0, 0, 0, 99, 0), (92, 1, 0, .iconst 0, 0, 0, 0, 99, 0), (93, 1, 2, .ireturn, 0, 0, 3, 99, 0), (94, 1, 0, .aload_n 0, 0, 0, 0, 99, 0), (95, 3, 3, .getfield 50, 8, 29, 1, 4, 194), (98, 1, 0, .iload_n 3, 0, 0, 0, 99, 0), (99, 1, 0, .iconst 3, 0, 0, 0, 99, 0), (100, 1, 1, .iadd, 0, 0, 0, 99, 0), (101, 1, 0, .aload_n 0, 0, 0, 0, 99, 0), (102, 3, 3, .getfield 121, 8, 20, 0, 4, 185), (105, 1, 3, .iastore, 0, 0, 0, 99, 0), (106, 1, 0, .aload_n 0, 0, 0, 0, 99, 0), (107, 1, 0, .dup, 0, 0, 0, 99, 0), (108, 3, 3, .getfield 146, 8, 24, 0, 4, 189), (111, 1, 0, .iconst 1, 0, 0, 0, 99, 0), (112, 1, 1, .iadd, 0, 0, 0, 99, 0), (113, 3, 3, .putfield 146, 8, 24, 0, 4, 189), (116, 1, 0, .iconst 1, 0, 0, 0, 99, 0), (117, 1, 2, .ireturn, 0, 0, 3, 99, 0)]
def pgX8_readsNot : List (Nat × Nat × z_En) := [(0, 1, 0, .aload_n 0, 0, 0, 0, 99, 0), (1, 3, 3, .getfield 152, 8, 25, 0, 4, 190), (4, 2, 0, .bipush 8, 0, 0, 0, 99, 0), (6, 3, 2, .if_icmp .ne 5, 0, 0, 0, 99, 0), (9, 1, 0, .iconst 0, 0, 0, 0, 99, 0), (10, 1, 2, .ireturn, 0, 0, 3, 99, 0), (11, 1, 0, .aload_n 0, 0, 0, 0, 99, 0), (12, 1, 0, .dup, 0, 0, 0, 99, 0), (13, 3, 3, .getfield 115, 8, 19, 0, 4, 184), (16, 1, 0, .iconst 1, 0, 0, 0, 99, 0), (17, 1, 1, .iadd, 0, 0, 0, 99, 0), (18, 3, 3, .putfield 115, 8, 19, 0, 4, 184), (21, 1, 0, .iconst 3, 0, 0, 0, 99, 0), (22, 1, 0, .aload_n 0, 0, 0, 0, 99, 0), (23, 3, 3, .getfield 152, 8, 25, 0, 4, 190), (26, 1, 1, .imul, 0, 0, 0, 99, 0), (27, 1, 0, .istore_n 2, 0, 0, 0, 99, 0), (28, 1, 0, .aload_n 0, 0, 0, 0, 99, 0), (29, 1, 0, .iload_n 1, 0, 0, 0, 99, 0), (30, 1, 0, .iconst 0, 0, 0, 0, 99, 0), (31, 1, 0, .aload_n 0, 0, 0, 0, 99, 0), (32, 3, 3, .getfield 140, 8, 23, 0, 4, 188), (35, 1, 0, .iconst 1, 0, 0, 0, 99, 0), (36, 1, 1, .isub, 0, 0, 0, 99, 0), (37, 3, 4, .invokevirtual 133, 158, 4, 0, 5, 164), (40, 3, 2, .ifCond .ne 5, 0, 0, 0, 99, 0), (43, 1, 0, .iconst 0, 0, 0, 0, 99, 0), (44, 1, 2, .ireturn, 0, 0, 3, 99, 0), (45, 1, 0, .aload_n 0, 0, 0, 0, 99, 0), (46, 3, 3, .getfield 53, 8, 30, 1, 4, 195), (49, 1, 0, .iload_n 2, 0, 0, 0, 99, 0), (50, 1, 0, .aload_n 0, 0, 0, 0, 99, 0), (51, 3, 3, .getfield 121, 8, 20, 0, 4, 185), (54, 1, 3, .iastore, 0, 0, 0, 99, 0), (55, 1, 0, .aload_n 0, 0, 0, 0, 99, 0), (56, 1, 0, .iload_n 1, 0, 0, 0, 99, 0), (57, 2, 0, .bipush 47, 0, 0, 0, 99, 0), (59, 3, 4, .invokevirtual 136, 157, 3, 0, 5, 168), (62, 3, 2, .ifCond .eq 39, 0, 0, 0, 99, 0), (65, 1, 0, .aload_n 0, 0, 0, 0, 99, 0), (66, 1, 0, .iload_n 1, 0, 0, 0, 99, 0), (67, 1, 0, .aload_n 0, 0, 0, 0, 99, 0), (68, 3, 3, .getfield 115, 8, 19, 0, 4, 184), (71, 3, 4, .invokevirtual 118, 156, 3, 0, 5, 144), (74, 2, 0, .bipush 48, 0, 0, 0, 99, 0), (76, 1, 0, .aload_n 0, 0, 0, 0, 99, 0), (77, 3, 3, .getfield 53, 8, 30, 1, 4, 195), (80, 1, 0, .iload_n 2, 0, 0, 0, 99, 0), (81, 1, 3, .iaload, 0, 0, 0, 99, 0), (82, 1, 1, .iadd, 0, 0, 0, 99, 0), (83, 3, 2, .if_icmp .eq 18, 0, 0, 0, 99, 0), (86, 1, 0, .aload_n 0, 0, 0, 0, 99, 0), (87, 1, 0, .iload_n 1, 0, 0, 0, 99, 0), (88, 1, 0, .iconst 0, 0, 0, 0, 99, 0), (89, 1, 0, .aload_n 0, 0, 0, 0, 99, 0), (90, 3, 3, .getfield 140, 8, 23, 0, 4, 188), (93, 1, 0, .iconst 1, 0, 0, 0, 99, 0), (94, 1, 1, .isub, 0, 0, 0, 99, 0), (95, 3, 4, .invokevirtual 133, 158, 4, 0, 5, 164), (98, 3, 2, .ifCond .ne 5, 0, 0, 0, 99, 0), (101, 1, 0, .iconst 0, 0, 0, 0, 99, 0), (102, 1, 2, .ireturn, 0, 0, 3, 99, 0), (103, 1, 0, .aload_n 0, 0, 0, 0, 99, 0), (104, 3, 3, .getfield 53, 8, 30, 1, 4, 195), (107, 1, 0, .iload_n 2, 0, 0, 0, 99, 0), (108, 1, 0, .iconst 1, 0, 0, 0, 99, 0), (109, 1, 1, .iadd, 0, 0, 0, 99, 0), (110, 1, 0, .aload_n 0, 0, 0, 0, 99, 0), (111, 3, 3, .getfield 121, 8, 20, 0, 4, 185), (114, 1, 3, .iastore, 0, 0, 0, 99, 0), (115, 1, 0, .aload_n 0, 0, 0, 0, 99, 0), (116, 1, 0, .iload_n 1, 0, 0, 0, 99, 0), (117, 2, 0, .bipush 64, 0, 0, 0, 99, 0), (119, 3, 4, .invokevirtual 136, 157, 3, 0, 5, 168), (122, 3, 2, .ifCond .eq 18, 0, 0, 0, 99, 0), (125, 1, 0, .aload_n 0, 0, 0, 0, 99, 0), (126, 1, 0, .iload_n 1, 0, 0, 0, 99, 0), (127, 1, 0, .iconst 0, 0, 0, 0, 99, 0), (128, 1, 0, .aload_n 0, 0, 0, 0, 99, 0), (129, 3, 3, .getfield 130, 8, 22, 0, 4, 187), (132, 1, 0, .iconst 1, 0, 0, 0, 99, 0), (133, 1, 1, .isub, 0, 0, 0, 99, 0), (134, 3, 4, .invokevirtual 133, 158, 4, 0, 5, 164), (137, 3, 2, .ifCond .ne 5, 0, 0, 0, 99, 0), (140, 1, 0, .iconst 0, 0, 0, 0, 99, 0), (141, 1, 2, .ireturn, 0, 0, 3, 99, 0), (142, 1, 0, .aload_n 0, 0, 0, 0, 99, 0), (143, 3, 3, .getfield 53, 8, 30, 1, 4, 195), (146, 1, 0, .iload_n 2, 0, 0, 0, 99, 0), (147, 1, 0, .iconst 2, 0, 0, 0, 99, 0), (148, 1, 1, .iadd, 0, 0, 0, 99, 0), (149, 1, 0, .aload_n 0, 0, 0, 0, 99, 0), (150, 3, 3, .getfield 121, 8, 20, 0, 4, 185), (153, 1, 3, .iastore, 0, 0, 0, 99, 0), (154, 1, 0, .aload_n 0, 0, 0, 0, 99, 0), (155, 1, 0, .dup, 0, 0, 0, 99, 0), (156, 3, 3, .getfield 152, 8, 25, 0, 4, 190), (159, 1, 0, .iconst 1, 0, 0, 0, 99, 0), (160, 1, 1, .iadd, 0, 0, 0, 99, 0), (161, 3, 3, .putfield 152, 8, 25, 0, 4, 190), (164, 1, 0, .iconst 1, 0, 0, 0, 99, 0), (165, 1, 2, .ireturn, 0, 0, 3, 99, 0)]
def pgX8_readsCushion : List (Nat × Nat × z_En) := [(0, 1, 0, .aload_n 0, 0, 0, 0, 99, 0), (1, 3, 3, .getfield 155, 8, 26, 0, 4, 191), (4, 2, 0, .bipush 8, 0, 0, 0, 99, 0), (6, 3, 2, .if_icmp .ne 5, 0, 0, 0, 99, 0), (9, 1, 0, .iconst 0, 0, 0, 0, 99, 0), (10, 1, 2, .ireturn, 0, 0, 3, 99, 0), (11, 1, 0, .aload_n 0, 0, 0, 0, 99, 0), (12, 1, 0, .dup, 0, 0, 0, 99, 0), (13, 3, 3, .getfield 115, 8, 19, 0, 4, 184), (16, 1, 0, .iconst 1, 0, 0, 0, 99, 0), (17, 1, 1, .iadd, 0, 0, 0, 99, 0), (18, 3, 3, .putfield 115, 8, 19, 0, 4, 184), (21, 1, 0, .iconst 3, 0, 0, 0, 99, 0), (22, 1, 0, .aload_n 0, 0, 0, 0, 99, 0), (23, 3, 3, .getfield 155, 8, 26, 0, 4, 191), (26, 1, 1, .imul, 0, 0, 0, 99, 0), (27, 1, 0, .istore_n 2, 0, 0, 0, 99, 0), (28, 1, 0, .aload_n 0, 0, 0, 0, 99, 0), (29, 1, 0, .iload_n 1, 0, 0, 0, 99, 0), (30, 1, 0, .iconst 0, 0, 0, 0, 99, 0), (31, 1, 0, .aload_n 0, 0, 0, 0, 99, 0), (32, 3, 3, .getfield 130, 8, 22, 0, 4, 187), (35, 1, 0, .iconst 1, 0, 0, 0, 99, 0), (36, 1, 1, .isub, 0, 0, 0, 99, 0), (37, 3, 4, .invokevirtual 133, 158, 4, 0, 5, 164), (40, 3, 2, .ifCond .ne 5, 0, 0, 0, 99, 0), (43, 1, 0, .iconst 0, 0, 0, 0, 99, 0), (44, 1, 2, .ireturn, 0, 0, 3, 99, 0), (45, 1, 0, .aload_n 0, 0, 0, 0, 99, 0), (46, 3, 3, .getfield 56, 8, 31, 1, 4, 196), (49, 1, 0, .iload_n 2, 0, 0, 0, 99, 0), (50, 1, 0, .aload_n 0, 0, 0, 0, 99, 0), (51, 3, 3, .getfield 121, 8, 20, 0, 4, 185), (54, 1, 3, .iastore, 0, 0, 0, 99, 0), (55, 1, 0, .aload_n 0, 0, 0, 0, 99, 0), (56, 1, 0, .iload_n 1, 0, 0, 0, 99, 0), (57, 2, 0, .bipush 64, 0, 0, 0, 99, 0), (59, 3, 4, .invokevirtual 136, 157, 3, 0, 5, 168), (62, 3, 2, .ifCond .eq 14, 0, 0, 0, 99, 0), (65, 1, 0, .aload_n 0, 0, 0, 0, 99, 0), (66, 1, 0, .iload_n 1, 0, 0, 0, 99, 0), (67, 1, 0, .iconst 0, 0, 0, 0, 99, 0), (68, 2, 0, .bipush 60, 0, 0, 0, 99, 0), (70, 3, 4, .invokevirtual 124, 159, 4, 0, 5, 156), (73, 3, 2, .ifCond .ne 5, 0, 0, 0, 99, 0), (76, 1, 0, .iconst 0, 0, 0, 0, 99, 0), (77, 1, 2, .ireturn, 0, 0, 3, 99, 0), (78, 1, 0, .aload_n 0, 0, 0, 0, 99, 0), (79, 3, 3, .getfield 56, 8, 31, 1, 4, 196), (82, 1, 0, .iload_n 2, 0, 0, 0, 99, 0), (83, 1, 0, .iconst 1, 0, 0, 0, 99, 0), (84, 1, 1, .iadd, 0, 0, 0, 99, 0), (85, 1, 0, .aload_n 0, 0, 0, 0, 99, 0), (86, 3, 3, .getfield 121, 8, 20, 0, 4, 185), (89, 1, 3, .iastore, 0, 0, 0, 99, 0), (90, 1, 0, .aload_n 0, 0, 0, 0, 99, 0), (91, 1, 0, .iload_n 1, 0, 0, 0, 99, 0), (92, 2, 0, .bipush 45, 0, 0, 0, 99, 0), (94, 3, 4, .invokevirtual 136, 157, 3, 0, 5, 168), (97, 3, 2, .ifCond .eq 21, 0, 0, 0, 99, 0), (100, 1, 0, .aload_n 0, 0, 0, 0, 99, 0), (101, 1, 0, .iload_n 1, 0, 0, 0, 99, 0), (102, 1, 0, .aload_n 0, 0, 0, 0, 99, 0), (103, 3, 3, .getfield 56, 8, 31, 1, 4, 196), (106, 1, 0, .iload_n 2, 0, 0, 0, 99, 0), (107, 1, 0, .iconst 1, 0, 0, 0, 99, 0), (108, 1, 1, .iadd, 0, 0, 0, 99, 0), (109, 1, 3, .iaload, 0, 0, 0, 99, 0), (110, 2, 0, .bipush 60, 0, 0, 0, 99, 0), (112, 3, 4, .invokevirtual 124, 159, 4, 0, 5, 156), (115, 3, 2, .ifCond .ne 5, 0, 0, 0, 99, 0), (118, 1, 0, .iconst 0, 0, 0, 0, 99, 0), (119, 1, 2, .ireturn, 0, 0, 3, 99, 0), (120, 1, 0, .aload_n 0, 0, 0, 0, 99, 0), (121, 3, 3, .getfield 56, 8, 31, 1, 4, 196), (124, 1, 0, .iload_n 2, 0, 0, 0, 99, 0), (125, 1, 0, .iconst 2, 0, 0, 0, 99, 0), (126, 1, 1, .iadd, 0, 0, 0, 99, 0), (127, 1, 0, .aload_n 0, 0, 0, 0, 99, 0), (128, 3, 3, .getfield 121, 8, 20, 0, 4, 185), (131, 1, 3, .iastore, 0, 0, 0, 99, 0), (132, 1, 0, .aload_n 0, 0, 0, 0, 99, 0), (133, 1, 0, .dup, 0, 0, 0, 99, 0), (134, 3, 3, .getfield 155, 8, 26, 0, 4, 191), (137, 1, 0, .iconst 1, 0, 0, 0, 99, 0), (138, 1, 1, .iadd, 0, 0, 0, 99, 0), (139, 3, 3, .putfield 155, 8, 26, 0, 4, 191), (142, 1, 0, .iconst 1, 0, 0, 0, 99, 0), (143, 1, 2, .ireturn, 0, 0, 3, 99, 0)]
def pgX8_readsItem : List (Nat × Nat × z_En) := [(0, 1, 0, .aload_n 0, 0, 0, 0, 99, 0), (1, 1, 0, .iload_n 1, 0, 0, 0, 99, 0), (2, 1, 0, .aload_n 0, 0, 0, 0, 99, 0), (3, 3, 3, .getfield 115, 8, 19, 0, 4, 184), (6, 3, 4, .invokevirtual 118, 156, 3, 0, 5, 144), (9, 51, 2, .lookupswitch 81 #[(99, 75), (109, 51), (110, 69), (112, 57), (114, 63)], 0, 0, 0, 99, 0), (60, 1, 0, .aload_n 0, 0, 0, 0, 99, 0), (61, 1, 0, .iload_n 1, 0, 0, 0, 99, 0), (62, 3, 4, .invokevirtual 158, 160, 2, 0, 5, 152), (65, 1, 2, .ireturn, 0, 0, 3, 99, 0), (66, 1, 0, .aload_n 0, 0, 0, 0, 99, 0), (67, 1, 0, .iload_n 1, 0, 0, 0, 99, 0), (68, 3, 4, .invokevirtual 161, 161, 2, 0, 5, 160), (71, 1, 2, .ireturn, 0, 0, 3, 99, 0), (72, 1, 0, .aload_n 0, 0, 0, 0, 99, 0), (73, 1, 0, .iload_n 1, 0, 0, 0, 99, 0), (74, 3, 4, .invokevirtual 164, 162, 2, 0, 5, 172), (77, 1, 2, .ireturn, 0, 0, 3, 99, 0), (78, 1, 0, .aload_n 0, 0, 0, 0, 99, 0), (79, 1, 0, .iload_n 1, 0, 0, 0, 99, 0), (80, 3, 4, .invokevirtual 167, 164, 2, 0, 5, 183), (83, 1, 2, .ireturn, 0, 0, 3, 99, 0), (84, 1, 0, .aload_n 0, 0, 0, 0, 99, 0), (85, 1, 0, .iload_n 1, 0, 0, 0, 99, 0), (86, 3, 4, .invokevirtual 170, 165, 2, 0, 5, 187), (89, 1, 2, .ireturn, 0, 0, 3, 99, 0), (90, 1, 0, .iconst 0, 0, 0, 0, 99, 0), (91, 1, 2, .ireturn, 0, 0, 3, 99, 0)]
def pgX8_faultOf : List (Nat × Nat × z_En) := [(0, 1, 0, .aload_n 0, 0, 0, 0, 99, 0), (1, 1, 0, .iconst 0, 0, 0, 0, 99, 0), (2, 3, 3, .putfield 115, 8, 19, 0, 4, 184), (5, 1, 0, .aload_n 0, 0, 0, 0, 99, 0), (6, 2, 0, .bipush 60, 0, 0, 0, 99, 0), (8, 3, 3, .putfield 127, 8, 21, 0, 4, 186), (11, 1, 0, .aload_n 0, 0, 0, 0, 99, 0), (12, 1, 0, .iconst 0, 0, 0, 0, 99, 0), (13, 3, 3, .putfield 130, 8, 22, 0, 4, 187), (16, 1, 0, .aload_n 0, 0, 0, 0, 99, 0), (17, 1, 0, .iconst 0, 0, 0, 0, 99, 0), (18, 3, 3, .putfield 140, 8, 23, 0, 4, 188), (21, 1, 0, .aload_n 0, 0, 0, 0, 99, 0), (22, 1, 0, .iconst 0, 0, 0, 0, 99, 0), (23, 3, 3, .putfield 146, 8, 24, 0, 4, 189), (26, 1, 0, .aload_n 0, 0, 0, 0, 99, 0), (27, 1, 0, .iconst 0, 0, 0, 0, 99, 0), (28, 3, 3, .putfield 152, 8, 25, 0, 4, 190), (31, 1, 0, .aload_n 0, 0, 0, 0, 99, 0), (32, 1, 0, .iconst 0, 0, 0, 0, 99, 0), (33, 3, 3, .putfield 155, 8, 26, 0, 4, 191), (36, 1, 0, .aload_n 0, 0, 0, 0, 99, 0), (37, 3, 3, .getfield 115, 8, 19, 0, 4, 184), (40, 1, 0, .aload_n 0, 0, 0, 0, 99, 0), (41, 3, 3, .getfield 22, 8, 6, 1, 4, 171), (44, 1, 0, .iload_n 1, 0, 0, 0, 99, 0), (45, 1, 3, .iaload, 0, 0, 0, 99, 0), (46, 3, 2, .if_icmp .ge 43, 0, 0, 0, 99, 0), (49, 1, 0, .aload_n 0, 0, 0, 0, 99, 0), (50, 1, 0, .iload_n 1, 0, 0, 0, 99, 0), (51, 1, 0, .aload_n 0, 0, 0, 0, 99, 0), (52, 3, 3, .getfield 115, 8, 19, 0, 4, 184), (55, 3, 4, .invokevirtual 118, 156, 3, 0, 5, 144), (58, 2, 0, .bipush 32, 0, 0, 0, 99, 0), (60, 3, 2, .if_icmp .ne 16, 0, 0, 0, 99, 0), (63, 1, 0, .aload_n 0, 0, 0, 0, 99, 0), (64, 1, 0, .dup, 0, 0, 0, 99, 0), (65, 3, 3, .getfield 115, 8, 19, 0, 4, 184), (68, 1, 0, .iconst 1, 0, 0, 0, 99, 0), (69, 1, 1, .iadd, 0, 0, 0, 99, 0), (70, 3, 3, .putfield 115, 8, 19, 0, 4, 184), (73, 3, 2, .goto (-37), 0, 0, 0, 99, 0), (76, 1, 0, .aload_n 0, 0, 0, 0, 99, 0), (77, 1, 0, .iload_n 1, 0, 0, 0, 99, 0), (78, 3, 4, .invokevirtual 173, 166, 2, 0, 5, 148), (81, 3, 2, .ifCond .ne (-45), 0, 0, 0, 99, 0), (84, 1, 0, .aload_n 0, 0, 0, 0, 99, 0), (85, 3, 3, .getfield 115, 8, 19, 0, 4, 184), (88, 1, 2, .ireturn, 0, 0, 0, 99, 0), (89, 2, 0, .bipush (-9), 0, 0, 0, 99, 0), (91, 1, 2, .ireturn, 0, 0, 0, 99, 0)]
def pgX8_fault : List (Nat × Nat × z_En) := [(0, 1, 0, .iload_n 1, 0, 0, 0, 99, 0), (1, 3, 4, .invokestatic 112, 153, 1, 1, 5, 129), (4, 3, 2, .ifCond .ne 5, 0, 0, 0, 99, 0), (7, 1, 0, .iconst (-1), 0, 0, 0, 99, 0), (8, 1, 2, .ireturn, 0, 0, 0, 99, 0), (9, 1, 0, .aload_n 0, 0, 0, 0, 99, 0), (10, 3, 3, .getfield 22, 8, 6, 1, 4, 171), (13, 1, 0, .iload_n 1, 0, 0, 0, 99, 0), (14, 1, 3, .iaload, 0, 0, 0, 99, 0), (15, 3, 2, .ifCond .ge 11, 0, 0, 0, 99, 0), (18, 1, 0, .aload_n 0, 0, 0, 0, 99, 0), (19, 1, 0, .iconst 1, 0, 0, 0, 99, 0), (20, 3, 4, .invokevirtual 101, 140, 2, 0, 5, 93), (23, 3, 2, .goto 8, 0, 0, 0, 99, 0), (26, 1, 0, .aload_n 0, 0, 0, 0, 99, 0), (27, 1, 0, .iload_n 1, 0, 0, 0, 99, 0), (28, 3, 4, .invokevirtual 176, 167, 2, 0, 5, 140), (31, 1, 2, .ireturn, 0, 0, 0, 99, 0)]
def pgX8_house : List (Nat × Nat × z_En) := [(0, 1, 0, .iload_n 1, 0, 0, 0, 99, 0), (1, 3, 4, .invokestatic 112, 153, 1, 1, 5, 129), (4, 3, 2, .ifCond .ne 5, 0, 0, 0, 99, 0), (7, 1, 0, .iconst (-1), 0, 0, 0, 99, 0), (8, 1, 2, .ireturn, 0, 0, 0, 99, 0), (9, 1, 0, .aload_n 0, 0, 0, 0, 99, 0), (10, 3, 3, .getfield 22, 8, 6, 1, 4, 171), (13, 1, 0, .iload_n 1, 0, 0, 0, 99, 0), (14, 1, 3, .iaload, 0, 0, 0, 99, 0), (15, 3, 2, .ifCond .ge 9, 0, 0, 0, 99, 0), (18, 1, 0, .aload_n 0, 0, 0, 0, 99, 0), (19, 1, 0, .iconst 1, 0, 0, 0, 99, 0), (20, 3, 4, .invokevirtual 101, 140, 2, 0, 5, 93), (23, 1, 2, .ireturn, 0, 0, 0, 99, 0), (24, 1, 0, .aload_n 0, 0, 0, 0, 99, 0), (25, 1, 0, .iload_n 1, 0, 0, 0, 99, 0), (26, 3, 4, .invokevirtual 176, 167, 2, 0, 5, 140), (29, 2, 0, .bipush (-9), 0, 0, 0, 99, 0), (31, 3, 2, .if_icmp .eq 6, 0, 0, 0, 99, 0), (34, 2, 0, .bipush (-4), 0, 0, 0, 99, 0), (36, 1, 2, .ireturn, 0, 0, 0, 99, 0), (37, 1, 0, .aload_n 0, 0, 0, 0, 99, 0), (38, 1, 0, .aload_n 0, 0, 0, 0, 99, 0), (39, 3, 3, .getfield 127, 8, 21, 0, 4, 186), (42, 3, 3, .putfield 83, 8, 8, 0, 4, 173), (45, 1, 0, .aload_n 0, 0, 0, 0, 99, 0), (46, 1, 0, .aload_n 0, 0, 0, 0, 99, 0), (47, 3, 3, .getfield 130, 8, 22, 0, 4, 187), (50, 3, 3, .putfield 179, 8, 9, 0, 4, 174), (53, 1, 0, .aload_n 0, 0, 0, 0, 99, 0), (54, 1, 0, .aload_n 0, 0, 0, 0, 99, 0), (55, 3, 3, .getfield 140, 8, 23, 0, 4, 188), (58, 3, 3, .putfield 182, 8, 10, 0, 4, 175), (61, 1, 0, .aload_n 0, 0, 0, 0, 99, 0), (62, 1, 0, .aload_n 0, 0, 0, 0, 99, 0), (63, 3, 3, .getfield 146, 8, 24, 0, 4, 189), (66, 3, 3, .putfield 185, 8, 11, 0, 4, 176), (69, 1, 0, .aload_n 0, 0, 0, 0, 99, 0), (70, 1, 0, .aload_n 0, 0, 0, 0, 99, 0), (71, 3, 3, .getfield 152, 8, 25, 0, 4, 190), (74, 3, 3, .putfield 188, 8, 12, 0, 4, 177), (77, 1, 0, .aload_n 0, 0, 0, 0, 99, 0), (78, 1, 0, .aload_n 0, 0, 0, 0, 99, 0), (79, 3, 3, .getfield 155, 8, 26, 0, 4, 191), (82, 3, 3, .putfield 191, 8, 13, 0, 4, 178), (85, 1, 0, .iconst 0, 0, 0, 0, 99, 0), (86, 1, 0, .istore_n 2, 0, 0, 0, 99, 0), (87, 1, 0, .iload_n 2, 0, 0, 0, 99, 0), (88, 2, 0, .bipush 96, 0, 0, 0, 99, 0), (90, 3, 2, .if_icmp .ge 89, 0, 0, 0, 99, 0), (93, 1, 0, .aload_n 0, 0, 0, 0, 99, 0), (94, 3, 3, .getfield 35, 8, 16, 1, 4, 181), (97, 1, 0, .iload_n 2, 0, 0, 0, 99, 0), (98, 1, 0, .aload_n 0, 0, 0, 0, 99, 0), (99, 3, 3, .getfield 50, 8, 29, 1, 4, 194), (102, 1, 0, .iload_n 2, 0, 0, 0, 99, 0), (103, 1, 3, .iaload, 0, 0, 0, 99, 0), (104, 1, 3, .iastore, 0, 0, 0, 99, 0), (105, 1, 0, .iload_n 2, 0, 0, 0, 99, 0), (106, 2, 0, .bipush 18, 0, 0, 0, 99, 0), (108, 3, 2, .if_icmp .ge 15, 0, 0, 0, 99, 0), (111, 1, 0, .aload_n 0, 0, 0, 0, 99, 0), (112, 3, 3, .getfield 29, 8, 14, 1, 4, 179), (115, 1, 0, .iload_n 2, 0, 0, 0, 99, 0), (116, 1, 0, .aload_n 0, 0, 0, 0, 99, 0), (117, 3, 3, .getfield 44, 8, 27, 1, 4, 192), (120, 1, 0, .iload_n 2, 0, 0, 0, 99, 0), (121, 1, 3, .iaload, 0, 0, 0, 99, 0), (122, 1, 3, .iastore, 0, 0, 0, 99, 0), (123, 1, 0, .iload_n 2, 0, 0, 0, 99, 0), (124, 2, 0, .bipush 24, 0, 0, 0, 99, 0), (126, 3, 2, .if_icmp .ge 47, 0, 0, 0, 99, 0), (129, 1, 0, .aload_n 0, 0, 0, 0, 99, 0), (130, 3, 3, .getfield 32, 8, 15, 1, 4, 180), (133, 1, 0, .iload_n 2, 0, 0, 0, 99, 0), (134, 1, 0, .aload_n 0, 0, 0, 0, 99, 0), (135, 3, 3, .getfield 47, 8, 28, 1, 4, 193), (138, 1, 0, .iload_n 2, 0, 0, 0, 99, 0), (139, 1, 3, .iaload, 0, 0, 0, 99, 0), (140, 1, 3, .iastore, 0, 0, 0, 99, 0), (141, 1, 0, .aload_n 0, 0, 0, 0, 99, 0), (142, 3, 3, .getfield 38, 8, 17, 1, 4, 182), (145, 1, 0, .iload_n 2, 0, 0, 0, 99, 0), (146, 1, 0, .aload_n 0, 0, 0, 0, 99, 0), (147, 3, 3, .getfield 53, 8, 30, 1, 4, 195), (150, 1, 0, .iload_n 2, 0, 0, 0, 99, 0), (151, 1, 3, .iaload, 0, 0, 0, 99, 0), (152, 1, 3, .iastore, 0, 0, 0, 99, 0), (153, 1, 0, .aload_n 0, 0, 0, 0, 99, 0), (154, 3, 3, .getfield 41, 8, 18, 1, 4, 183), (157, 1, 0, .iload_n 2, 0, 0, 0, 99, 0), (158, 1, 0, .aload_n 0, 0, 0, 0, 99, 0), (159, 3, 3, .getfield 56, 8, 31, 1, 4, 196), (162, 1, 0, .iload_n 2, 0, 0, 0, 99, 0), (163, 1, 3, .iaload, 0, 0, 0, 99, 0), (164, 1, 3, .iastore, 0, 0, 0, 99, 0), (165, 1, 0, .aload_n 0, 0, 0, 0, 99, 0), (166, 3, 3, .getfield 59, 8, 32, 1, 4, 197), (169, 1, 0, .iload_n 2, 0, 0, 0, 99, 0), (170, 2, 0, .bipush (-9), 0, 0, 0, 99, 0), (172, 1, 3, .iastore, 0, 0, 0, 99, 0), (173, 3, 0, .iinc 2 1, 0, 0, 0, 99, 0), (176, 3, 2, .goto (-89), 0, 0, 0, 99, 0), (179, 1, 0, .iconst 0, 0, 0, 0, 99, 0), (180, 1, 0, .istore_n 2, 0, 0, 0, 99, 0), (181, 1, 0, .iload_n 2, 0, 0, 0, 99, 0), (182, 2, 0, .bipush 6, 0, 0, 0, 99, 0), (184, 3, 2, .if_icmp .ge 16, 0, 0, 0, 99, 0), (187, 1, 0, .aload_n 0, 0, 0, 0, 99, 0), (188, 3, 3, .getfield 62, 8, 33, 1, 4, 198), (191, 1, 0, .iload_n 2, 0, 0, 0, 99, 0), (192, 1, 0, .iconst 0, 0, 0, 0, 99, 0), (193, 1, 3, .iastore, 0, 0, 0, 99, 0), (194, 3, 0, .iinc 2 1, 0, 0, 0, 99, 0), (197, 3, 2, .goto (-16), 0, 0, 0, 99, 0), (200, 1, 0, .aload_n 0, 0, 0, 0, 99, 0), (201, 3, 3, .getfield 185, 8, 11, 0, 4, 176), (204, 1, 2, .ireturn, 0, 0, 0, 99, 0)]
def pgX8_isPart : List (Nat × Nat × z_En) := [(0, 1, 0, .iload_n 1, 0, 0, 0, 99, 0), (1, 1, 0, .iconst 0, 0, 0, 0, 99, 0), (2, 1, 0, .aload_n 0, 0, 0, 0, 99, 0), (3, 3, 3, .getfield 179, 8, 9, 0, 4, 174), (6, 1, 0, .iconst 1, 0, 0, 0, 99, 0), (7, 1, 1, .isub, 0, 0, 0, 99, 0), (8, 3, 4, .invokestatic 90, 136, 3, 1, 5, 79), (11, 1, 2, .ireturn, 0, 0, 3, 99, 0)]
def pgX8_isReader : List (Nat × Nat × z_En) := [(0, 1, 0, .iload_n 1, 0, 0, 0, 99, 0), (1, 1, 0, .iconst 0, 0, 0, 0, 99, 0), (2, 1, 0, .aload_n 0, 0, 0, 0, 99, 0), (3, 3, 3, .getfield 182, 8, 10, 0, 4, 175), (6, 1, 0, .iconst 1, 0, 0, 0, 99, 0), (7, 1, 1, .isub, 0, 0, 0, 99, 0), (8, 3, 4, .invokestatic 90, 136, 3, 1, 5, 79), (11, 1, 2, .ireturn, 0, 0, 3, 99, 0)]
def pgX8_isWant : List (Nat × Nat × z_En) := [(0, 1, 0, .iload_n 1, 0, 0, 0, 99, 0), (1, 1, 0, .iconst 0, 0, 0, 0, 99, 0), (2, 1, 0, .aload_n 0, 0, 0, 0, 99, 0), (3, 3, 3, .getfield 185, 8, 11, 0, 4, 176), (6, 1, 0, .iconst 1, 0, 0, 0, 99, 0), (7, 1, 1, .isub, 0, 0, 0, 99, 0), (8, 3, 4, .invokestatic 90, 136, 3, 1, 5, 79), (11, 1, 2, .ireturn, 0, 0, 3, 99, 0)]
def pgX8_readerOf : List (Nat × Nat × z_En) := [(0, 1, 0, .aload_n 0, 0, 0, 0, 99, 0), (1, 3, 3, .getfield 35, 8, 16, 1, 4, 181), (4, 1, 0, .iconst 4, 0, 0, 0, 99, 0), (5, 1, 0, .iload_n 1, 0, 0, 0, 99, 0), (6, 1, 1, .imul, 0, 0, 0, 99, 0), (7, 1, 3, .iaload, 0, 0, 0, 99, 0), (8, 1, 2, .ireturn, 0, 0, 0, 99, 0)]
def pgX8_partOf : List (Nat × Nat × z_En) := [(0, 1, 0, .aload_n 0, 0, 0, 0, 99, 0), (1, 3, 3, .getfield 35, 8, 16, 1, 4, 181), (4, 1, 0, .iconst 4, 0, 0, 0, 99, 0), (5, 1, 0, .iload_n 1, 0, 0, 0, 99, 0), (6, 1, 1, .imul, 0, 0, 0, 99, 0), (7, 1, 0, .iconst 1, 0, 0, 0, 99, 0), (8, 1, 1, .iadd, 0, 0, 0, 99, 0), (9, 1, 3, .iaload, 0, 0, 0, 99, 0), (10, 1, 2, .ireturn, 0, 0, 0, 99, 0)]
def pgX8_minutesOf : List (Nat × Nat × z_En) := [(0, 1, 0, .aload_n 0, 0, 0, 0, 99, 0), (1, 3, 3, .getfield 35, 8, 16, 1, 4, 181), (4, 1, 0, .iconst 4, 0, 0, 0, 99, 0), (5, 1, 0, .iload_n 1, 0, 0, 0, 99, 0), (6, 1, 1, .imul, 0, 0, 0, 99, 0), (7, 1, 0, .iconst 2, 0, 0, 0, 99, 0), (8, 1, 1, .iadd, 0, 0, 0, 99, 0), (9, 1, 3, .iaload, 0, 0, 0, 99, 0), (10, 1, 2, .ireturn, 0, 0, 0, 99, 0)]
def pgX8_copiesOf : List (Nat × Nat × z_En) := [(0, 1, 0, .aload_n 0, 0, 0, 0, 99, 0), (1, 3, 3, .getfield 29, 8, 14, 1, 4, 179), (4, 1, 0, .iconst 3, 0, 0, 0, 99, 0), (5, 1, 0, .iload_n 1, 0, 0, 0, 99, 0), (6, 1, 1, .imul, 0, 0, 0, 99, 0), (7, 1, 3, .iaload, 0, 0, 0, 99, 0), (8, 1, 2, .ireturn, 0, 0, 0, 99, 0)]
def pgX8_comesAt : List (Nat × Nat × z_En) := [(0, 1, 0, .aload_n 0, 0, 0, 0, 99, 0), (1, 3, 3, .getfield 29, 8, 14, 1, 4, 179), (4, 1, 0, .iconst 3, 0, 0, 0, 99, 0), (5, 1, 0, .iload_n 1, 0, 0, 0, 99, 0), (6, 1, 1, .imul, 0, 0, 0, 99, 0), (7, 1, 0, .iconst 1, 0, 0, 0, 99, 0), (8, 1, 1, .iadd, 0, 0, 0, 99, 0), (9, 1, 3, .iaload, 0, 0, 0, 99, 0), (10, 1, 2, .ireturn, 0, 0, 0, 99, 0)]
def pgX8_from : List (Nat × Nat × z_En) := [(0, 1, 0, .aload_n 0, 0, 0, 0, 99, 0), (1, 3, 3, .getfield 32, 8, 15, 1, 4, 180), (4, 1, 0, .iconst 3, 0, 0, 0, 99, 0), (5, 1, 0, .iload_n 1, 0, 0, 0, 99, 0), (6, 1, 1, .imul, 0, 0, 0, 99, 0), (7, 1, 3, .iaload, 0, 0, 0, 99, 0), (8, 1, 2, .ireturn, 0, 0, 0, 99, 0)]
def pgX8_till : List (Nat × Nat × z_En) := [(0, 1, 0, .aload_n 0, 0, 0, 0, 99, 0), (1, 3, 3, .getfield 32, 8, 15, 1, 4, 180), (4, 1, 0, .iconst 3, 0, 0, 0, 99, 0), (5, 1, 0, .iload_n 1, 0, 0, 0, 99, 0), (6, 1, 1, .imul, 0, 0, 0, 99, 0), (7, 1, 0, .iconst 1, 0, 0, 0, 99, 0), (8, 1, 1, .iadd, 0, 0, 0, 99, 0), (9, 1, 3, .iaload, 0, 0, 0, 99, 0), (10, 1, 2, .ireturn, 0, 0, 0, 99, 0)]
def pgX8_isInOrder : List (Nat × Nat × z_En) := [(0, 1, 0, .aload_n 0, 0, 0, 0, 99, 0), (1, 3, 3, .getfield 32, 8, 15, 1, 4, 180), (4, 1, 0, .iconst 3, 0, 0, 0, 99, 0), (5, 1, 0, .iload_n 1, 0, 0, 0, 99, 0), (6, 1, 1, .imul, 0, 0, 0, 99, 0), (7, 1, 0, .iconst 2, 0, 0, 0, 99, 0), (8, 1, 1, .iadd, 0, 0, 0, 99, 0), (9, 1, 3, .iaload, 0, 0, 0, 99, 0), (10, 1, 0, .iconst 1, 0, 0, 0, 99, 0), (11, 3, 2, .if_icmp .ne 7, 0, 0, 0, 99, 0), (14, 1, 0, .iconst 1, 0, 0, 0, 99, 0), (15, 3, 2, .goto 4, 0, 0, 0, 99, 0), (18, 1, 0, .iconst 0, 0, 0, 0, 99, 0), (19, 1, 2, .ireturn, 0, 0, 3, 99, 0)]
def pgX8_isNotAfter : List (Nat × Nat × z_En) := [(0, 1, 0, .iconst 0, 0, 0, 0, 99, 0), (1, 2, 0, .istore 4, 0, 0, 0, 99, 0), (3, 1, 0, .iconst 0, 0, 0, 0, 99, 0), (4, 2, 0, .istore 5, 0, 0, 0, 99, 0), (6, 2, 0, .iload 5, 0, 0, 0, 99, 0), (8, 1, 0, .aload_n 0, 0, 0, 0, 99, 0), (9, 3, 3, .getfield 188, 8, 12, 0, 4, 177), (12, 3, 2, .if_icmp .ge 64, 0, 0, 0, 99, 0), (15, 2, 0, .iload 4, 0, 0, 0, 99, 0), (17, 3, 2, .ifCond .ne 46, 0, 0, 0, 99, 0), (20, 1, 0, .aload_n 0, 0, 0, 0, 99, 0), (21, 3, 3, .getfield 38, 8, 17, 1, 4, 182), (24, 1, 0, .iconst 3, 0, 0, 0, 99, 0), (25, 2, 0, .iload 5, 0, 0, 0, 99, 0), (27, 1, 1, .imul, 0, 0, 0, 99, 0), (28, 1, 3, .iaload, 0, 0, 0, 99, 0), (29, 1, 0, .iload_n 1, 0, 0, 0, 99, 0), (30, 3, 2, .if_icmp .ne 37, 0, 0, 0, 99, 0), (33, 1, 0, .aload_n 0, 0, 0, 0, 99, 0), (34, 3, 3, .getfield 38, 8, 17, 1, 4, 182), (37, 1, 0, .iconst 3, 0, 0, 0, 99, 0), (38, 2, 0, .iload 5, 0, 0, 0, 99, 0), (40, 1, 1, .imul, 0, 0, 0, 99, 0), (41, 1, 0, .iconst 1, 0, 0, 0, 99, 0), (42, 1, 1, .iadd, 0, 0, 0, 99, 0), (43, 1, 3, .iaload, 0, 0, 0, 99, 0), (44, 1, 0, .iload_n 2, 0, 0, 0, 99, 0), (45, 3, 2, .if_icmp .ne 22, 0, 0, 0, 99, 0), (48, 1, 0, .aload_n 0, 0, 0, 0, 99, 0), (49, 3, 3, .getfield 38, 8, 17, 1, 4, 182), (52, 1, 0, .iconst 3, 0, 0, 0, 99, 0), (53, 2, 0, .iload 5, 0, 0, 0, 99, 0), (55, 1, 1, .imul, 0, 0, 0, 99, 0), (56, 1, 0, .iconst 2, 0, 0, 0, 99, 0), (57, 1, 1, .iadd, 0, 0, 0, 99, 0), (58, 1, 3, .iaload, 0, 0, 0, 99, 0), (59, 1, 0, .iload_n 3, 0, 0, 0, 99, 0), (60, 3, 2, .if_icmp .ne 7, 0, 0, 0, 99, 0), (63, 1, 0, .iconst 1, 0, 0, 0, 99, 0), (64, 3, 2, .goto 4, 0, 0, 0, 99, 0), (67, 1, 0, .iconst 0, 0, 0, 0, 99, 0), (68, 2, 0, .istore 4, 0, 0, 0, 99, 0), (70, 3, 0, .iinc 5 1, 0, 0, 0, 99, 0), (73, 3, 2, .goto (-67), 0, 0, 0, 99, 0), (76, 2, 0, .iload 4, 0, 0, 0, 99, 0), (78, 1, 2, .ireturn, 0, 0, 3, 99, 0)]
def pgX8_isUnder : List (Nat × Nat × z_En) := [(0, 1, 0, .iconst 0, 0, 0, 0, 99, 0), (1, 2, 0, .istore 4, 0, 0, 0, 99, 0), (3, 1, 0, .iconst 0, 0, 0, 0, 99, 0), (4, 2, 0, .istore 5, 0, 0, 0, 99, 0), (6, 2, 0, .iload 5, 0, 0, 0, 99, 0), (8, 1, 0, .aload_n 0, 0, 0, 0, 99, 0), (9, 3, 3, .getfield 191, 8, 13, 0, 4, 178), (12, 3, 2, .if_icmp .ge 66, 0, 0, 0, 99, 0), (15, 2, 0, .iload 4, 0, 0, 0, 99, 0), (17, 3, 2, .ifCond .ne 48, 0, 0, 0, 99, 0), (20, 1, 0, .aload_n 0, 0, 0, 0, 99, 0), (21, 3, 3, .getfield 41, 8, 18, 1, 4, 183), (24, 1, 0, .iconst 3, 0, 0, 0, 99, 0), (25, 2, 0, .iload 5, 0, 0, 0, 99, 0), (27, 1, 1, .imul, 0, 0, 0, 99, 0), (28, 1, 3, .iaload, 0, 0, 0, 99, 0), (29, 1, 0, .iload_n 1, 0, 0, 0, 99, 0), (30, 3, 2, .if_icmp .ne 39, 0, 0, 0, 99, 0), (33, 1, 0, .aload_n 0, 0, 0, 0, 99, 0), (34, 3, 3, .getfield 41, 8, 18, 1, 4, 183), (37, 1, 0, .iconst 3, 0, 0, 0, 99, 0), (38, 2, 0, .iload 5, 0, 0, 0, 99, 0), (40, 1, 1, .imul, 0, 0, 0, 99, 0), (41, 1, 0, .iconst 1, 0, 0, 0, 99, 0), (42, 1, 1, .iadd, 0, 0, 0, 99, 0), (43, 1, 3, .iaload, 0, 0, 0, 99, 0), (44, 1, 0, .iload_n 2, 0, 0, 0, 99, 0), (45, 1, 0, .iload_n 3, 0, 0, 0, 99, 0), (46, 1, 1, .iadd, 0, 0, 0, 99, 0), (47, 3, 2, .if_icmp .ge 22, 0, 0, 0, 99, 0), (50, 1, 0, .aload_n 0, 0, 0, 0, 99, 0), (51, 3, 3, .getfield 41, 8, 18, 1, 4, 183), (54, 1, 0, .iconst 3, 0, 0, 0, 99, 0), (55, 2, 0, .iload 5, 0, 0, 0, 99, 0), (57, 1, 1, .imul, 0, 0, 0, 99, 0), (58, 1, 0, .iconst 2, 0, 0, 0, 99, 0), (59, 1, 1, .iadd, 0, 0, 0, 99, 0), (60, 1, 3, .iaload, 0, 0, 0, 99, 0), (61, 1, 0, .iload_n 2, 0, 0, 0, 99, 0), (62, 3, 2, .if_icmp .lt 7, 0, 0, 0, 99, 0), (65, 1, 0, .iconst 1, 0, 0, 0, 99, 0), (66, 3, 2, .goto 4, 0, 0, 0, 99, 0), (69, 1, 0, .iconst 0, 0, 0, 0, 99, 0), (70, 2, 0, .istore 4, 0, 0, 0, 99, 0), (72, 3, 0, .iinc 5 1, 0, 0, 0, 99, 0), (75, 3, 2, .goto (-69), 0, 0, 0, 99, 0), (78, 2, 0, .iload 4, 0, 0, 0, 99, 0), (80, 1, 2, .ireturn, 0, 0, 3, 99, 0)]
def pgX8_part : List (Nat × Nat × z_En) := [(0, 1, 0, .aload_n 0, 0, 0, 0, 99, 0), (1, 1, 0, .iload_n 1, 0, 0, 0, 99, 0), (2, 3, 4, .invokevirtual 194, 170, 2, 0, 5, 199), (5, 3, 2, .ifCond .eq 30, 0, 0, 0, 99, 0), (8, 1, 0, .iload_n 2, 0, 0, 0, 99, 0), (9, 1, 0, .iconst 0, 0, 0, 0, 99, 0), (10, 1, 0, .iconst 2, 0, 0, 0, 99, 0), (11, 3, 4, .invokestatic 90, 136, 3, 1, 5, 79), (14, 3, 2, .ifCond .eq 21, 0, 0, 0, 99, 0), (17, 1, 0, .aload_n 0, 0, 0, 0, 99, 0), (18, 1, 0, .aload_n 0, 0, 0, 0, 99, 0), (19, 3, 3, .getfield 29, 8, 14, 1, 4, 179), (22, 1, 0, .iconst 3, 0, 0, 0, 99, 0), (23, 1, 0, .iload_n 1, 0, 0, 0, 99, 0), (24, 1, 1, .imul, 0, 0, 0, 99, 0), (25, 1, 0, .iload_n 2, 0, 0, 0, 99, 0), (26, 1, 1, .iadd, 0, 0, 0, 99, 0), (27, 1, 3, .iaload, 0, 0, 0, 99, 0), (28, 1, 0, .iconst 1, 0, 0, 0, 99, 0), (29, 3, 4, .invokevirtual 109, 143, 3, 0, 5, 105), (32, 3, 2, .goto 4, 0, 0, 0, 99, 0), (35, 1, 0, .iconst (-1), 0, 0, 0, 99, 0), (36, 1, 2, .ireturn, 0, 0, 0, 99, 0)]
def pgX8_readerTells : List (Nat × Nat × z_En) := [(0, 1, 0, .iconst 0, 0, 0, 0, 99, 0), (1, 1, 0, .istore_n 3, 0, 0, 0, 99, 0), (2, 1, 0, .iconst 0, 0, 0, 0, 99, 0), (3, 2, 0, .istore 4, 0, 0, 0, 99, 0), (5, 2, 0, .iload 4, 0, 0, 0, 99, 0), (7, 1, 0, .aload_n 0, 0, 0, 0, 99, 0), (8, 3, 3, .getfield 185, 8, 11, 0, 4, 176), (11, 3, 2, .if_icmp .ge 30, 0, 0, 0, 99, 0), (14, 1, 0, .iload_n 3, 0, 0, 0, 99, 0), (15, 1, 0, .aload_n 0, 0, 0, 0, 99, 0), (16, 2, 0, .iload 4, 0, 0, 0, 99, 0), (18, 3, 4, .invokevirtual 197, 173, 2, 0, 5, 215), (21, 1, 0, .iload_n 1, 0, 0, 0, 99, 0), (22, 3, 2, .if_icmp .ne 10, 0, 0, 0, 99, 0), (25, 1, 0, .iconst 1, 0, 0, 0, 99, 0), (26, 2, 0, .iload 4, 0, 0, 0, 99, 0), (28, 1, 1, .ishl, 0, 0, 0, 99, 0), (29, 3, 2, .goto 4, 0, 0, 0, 99, 0), (32, 1, 0, .iconst 0, 0, 0, 0, 99, 0), (33, 1, 1, .ior, 0, 0, 0, 99, 0), (34, 1, 0, .istore_n 3, 0, 0, 0, 99, 0), (35, 3, 0, .iinc 4 1, 0, 0, 0, 99, 0), (38, 3, 2, .goto (-33), 0, 0, 0, 99, 0), (41, 1, 0, .iload_n 2, 0, 0, 0, 99, 0), (42, 1, 0, .iconst 2, 0, 0, 0, 99, 0), (43, 3, 2, .if_icmp .ne 7, 0, 0, 0, 99, 0), (46, 1, 0, .iload_n 3, 0, 0, 0, 99, 0), (47, 3, 2, .goto 22, 0, 0, 0, 99, 0), (50, 1, 0, .aload_n 0, 0, 0, 0, 99, 0), (51, 3, 3, .getfield 32, 8, 15, 1, 4, 180), (54, 1, 0, .iconst 3, 0, 0, 0, 99, 0), (55, 1, 0, .iload_n 1, 0, 0, 0, 99, 0), (56, 1, 1, .imul, 0, 0, 0, 99, 0), (57, 1, 0, .iload_n 2, 0, 0, 0, 99, 0), (58, 1, 0, .iconst 3, 0, 0, 0, 99, 0), (59, 3, 2, .if_icmp .ne 7, 0, 0, 0, 99, 0), (62, 1, 0, .iconst 2, 0, 0, 0, 99, 0), (63, 3, 2, .goto 4, 0, 0, 0, 99, 0), (66, 1, 0, .iload_n 2, 0, 0, 0, 99, 0), (67, 1, 1, .iadd, 0, 0, 0, 99, 0), (68, 1, 3, .iaload, 0, 0, 0, 99, 0), (69, 1, 2, .ireturn, 0, 0, 0, 99, 0)]
def pgX8_reader : List (Nat × Nat × z_En) := [(0, 1, 0, .aload_n 0, 0, 0, 0, 99, 0), (1, 1, 0, .iload_n 1, 0, 0, 0, 99, 0), (2, 3, 4, .invokevirtual 200, 171, 2, 0, 5, 207), (5, 3, 2, .ifCond .eq 26, 0, 0, 0, 99, 0), (8, 1, 0, .iload_n 2, 0, 0, 0, 99, 0), (9, 1, 0, .iconst 0, 0, 0, 0, 99, 0), (10, 1, 0, .iconst 3, 0, 0, 0, 99, 0), (11, 3, 4, .invokestatic 90, 136, 3, 1, 5, 79), (14, 3, 2, .ifCond .eq 17, 0, 0, 0, 99, 0), (17, 1, 0, .aload_n 0, 0, 0, 0, 99, 0), (18, 1, 0, .aload_n 0, 0, 0, 0, 99, 0), (19, 1, 0, .iload_n 1, 0, 0, 0, 99, 0), (20, 1, 0, .iload_n 2, 0, 0, 0, 99, 0), (21, 3, 4, .invokevirtual 203, 184, 3, 0, 5, 211), (24, 1, 0, .iconst 1, 0, 0, 0, 99, 0), (25, 3, 4, .invokevirtual 109, 143, 3, 0, 5, 105), (28, 3, 2, .goto 4, 0, 0, 0, 99, 0), (31, 1, 0, .iconst (-1), 0, 0, 0, 99, 0), (32, 1, 2, .ireturn, 0, 0, 0, 99, 0)]
def pgX8_wantTells : List (Nat × Nat × z_En) := [(0, 1, 0, .iconst 0, 0, 0, 0, 99, 0), (1, 1, 0, .istore_n 3, 0, 0, 0, 99, 0), (2, 1, 0, .iconst 0, 0, 0, 0, 99, 0), (3, 2, 0, .istore 4, 0, 0, 0, 99, 0), (5, 2, 0, .iload 4, 0, 0, 0, 99, 0), (7, 1, 0, .aload_n 0, 0, 0, 0, 99, 0), (8, 3, 3, .getfield 182, 8, 10, 0, 4, 175), (11, 3, 2, .if_icmp .ge 39, 0, 0, 0, 99, 0), (14, 1, 0, .iload_n 3, 0, 0, 0, 99, 0), (15, 1, 0, .aload_n 0, 0, 0, 0, 99, 0), (16, 1, 0, .aload_n 0, 0, 0, 0, 99, 0), (17, 1, 0, .iload_n 1, 0, 0, 0, 99, 0), (18, 3, 4, .invokevirtual 197, 173, 2, 0, 5, 215), (21, 2, 0, .iload 4, 0, 0, 0, 99, 0), (23, 1, 0, .aload_n 0, 0, 0, 0, 99, 0), (24, 1, 0, .iload_n 1, 0, 0, 0, 99, 0), (25, 3, 4, .invokevirtual 206, 174, 2, 0, 5, 231), (28, 3, 4, .invokevirtual 209, 181, 4, 0, 5, 235), (31, 3, 2, .ifCond .eq 10, 0, 0, 0, 99, 0), (34, 1, 0, .iconst 1, 0, 0, 0, 99, 0), (35, 2, 0, .iload 4, 0, 0, 0, 99, 0), (37, 1, 1, .ishl, 0, 0, 0, 99, 0), (38, 3, 2, .goto 4, 0, 0, 0, 99, 0), (41, 1, 0, .iconst 0, 0, 0, 0, 99, 0), (42, 1, 1, .ior, 0, 0, 0, 99, 0), (43, 1, 0, .istore_n 3, 0, 0, 0, 99, 0), (44, 3, 0, .iinc 4 1, 0, 0, 0, 99, 0), (47, 3, 2, .goto (-42), 0, 0, 0, 99, 0), (50, 1, 0, .iload_n 2, 0, 0, 0, 99, 0), (51, 1, 0, .iconst 4, 0, 0, 0, 99, 0), (52, 3, 2, .if_icmp .ge 16, 0, 0, 0, 99, 0), (55, 1, 0, .aload_n 0, 0, 0, 0, 99, 0), (56, 3, 3, .getfield 35, 8, 16, 1, 4, 181), (59, 1, 0, .iconst 4, 0, 0, 0, 99, 0), (60, 1, 0, .iload_n 1, 0, 0, 0, 99, 0), (61, 1, 1, .imul, 0, 0, 0, 99, 0), (62, 1, 0, .iload_n 2, 0, 0, 0, 99, 0), (63, 1, 1, .iadd, 0, 0, 0, 99, 0), (64, 1, 3, .iaload, 0, 0, 0, 99, 0), (65, 3, 2, .goto 18, 0, 0, 0, 99, 0), (68, 1, 0, .iload_n 2, 0, 0, 0, 99, 0), (69, 1, 0, .iconst 4, 0, 0, 0, 99, 0), (70, 3, 2, .if_icmp .ne 12, 0, 0, 0, 99, 0), (73, 1, 0, .aload_n 0, 0, 0, 0, 99, 0), (74, 3, 3, .getfield 59, 8, 32, 1, 4, 197), (77, 1, 0, .iload_n 1, 0, 0, 0, 99, 0), (78, 1, 3, .iaload, 0, 0, 0, 99, 0), (79, 3, 2, .goto 4, 0, 0, 0, 99, 0), (82, 1, 0, .iload_n 3, 0, 0, 0, 99, 0), (83, 1, 2, .ireturn, 0, 0, 0, 99, 0)]
def pgX8_want : List (Nat × Nat × z_En) := [(0, 1, 0, .aload_n 0, 0, 0, 0, 99, 0), (1, 1, 0, .iload_n 1, 0, 0, 0, 99, 0), (2, 3, 4, .invokevirtual 212, 172, 2, 0, 5, 223), (5, 3, 2, .ifCond .eq 26, 0, 0, 0, 99, 0), (8, 1, 0, .iload_n 2, 0, 0, 0, 99, 0), (9, 1, 0, .iconst 0, 0, 0, 0, 99, 0), (10, 1, 0, .iconst 5, 0, 0, 0, 99, 0), (11, 3, 4, .invokestatic 90, 136, 3, 1, 5, 79), (14, 3, 2, .ifCond .eq 17, 0, 0, 0, 99, 0), (17, 1, 0, .aload_n 0, 0, 0, 0, 99, 0), (18, 1, 0, .aload_n 0, 0, 0, 0, 99, 0), (19, 1, 0, .iload_n 1, 0, 0, 0, 99, 0), (20, 1, 0, .iload_n 2, 0, 0, 0, 99, 0), (21, 3, 4, .invokevirtual 215, 186, 3, 0, 5, 227), (24, 1, 0, .iconst 1, 0, 0, 0, 99, 0), (25, 3, 4, .invokevirtual 109, 143, 3, 0, 5, 105), (28, 3, 2, .goto 4, 0, 0, 0, 99, 0), (31, 1, 0, .iconst (-1), 0, 0, 0, 99, 0), (32, 1, 2, .ireturn, 0, 0, 0, 99, 0)]
def pgX8_copies : List (Nat × Nat × z_En) := [(0, 1, 0, .aload_n 0, 0, 0, 0, 99, 0), (1, 1, 0, .iload_n 1, 0, 0, 0, 99, 0), (2, 3, 4, .invokevirtual 194, 170, 2, 0, 5, 199), (5, 3, 2, .ifCond .eq 12, 0, 0, 0, 99, 0), (8, 1, 0, .iload_n 2, 0, 0, 0, 99, 0), (9, 1, 0, .iconst 1, 0, 0, 0, 99, 0), (10, 1, 0, .iconst 2, 0, 0, 0, 99, 0), (11, 3, 4, .invokestatic 90, 136, 3, 1, 5, 79), (14, 3, 2, .ifCond .ne 5, 0, 0, 0, 99, 0), (17, 1, 0, .iconst (-1), 0, 0, 0, 99, 0), (18, 1, 2, .ireturn, 0, 0, 0, 99, 0), (19, 1, 0, .aload_n 0, 0, 0, 0, 99, 0), (20, 3, 3, .getfield 29, 8, 14, 1, 4, 179), (23, 1, 0, .iconst 3, 0, 0, 0, 99, 0), (24, 1, 0, .iload_n 1, 0, 0, 0, 99, 0), (25, 1, 1, .imul, 0, 0, 0, 99, 0), (26, 1, 3, .iaload, 0, 0, 0, 99, 0), (27, 1, 0, .istore_n 3, 0, 0, 0, 99, 0), (28, 1, 0, .aload_n 0, 0, 0, 0, 99, 0), (29, 3, 3, .getfield 29, 8, 14, 1, 4, 179), (32, 1, 0, .iconst 3, 0, 0, 0, 99, 0), (33, 1, 0, .iload_n 1, 0, 0, 0, 99, 0), (34, 1, 1, .imul, 0, 0, 0, 99, 0), (35, 1, 0, .iload_n 2, 0, 0, 0, 99, 0), (36, 1, 3, .iastore, 0, 0, 0, 99, 0), (37, 1, 0, .iload_n 3, 0, 0, 0, 99, 0), (38, 1, 2, .ireturn, 0, 0, 0, 99, 0)]
def pgX8_post : List (Nat × Nat × z_En) := [(0, 1, 0, .aload_n 0, 0, 0, 0, 99, 0), (1, 1, 0, .iload_n 1, 0, 0, 0, 99, 0), (2, 3, 4, .invokevirtual 194, 170, 2, 0, 5, 199), (5, 3, 2, .ifCond .eq 23, 0, 0, 0, 99, 0), (8, 1, 0, .iload_n 2, 0, 0, 0, 99, 0), (9, 1, 0, .iconst 0, 0, 0, 0, 99, 0), (10, 2, 0, .bipush 59, 0, 0, 0, 99, 0), (12, 3, 4, .invokestatic 90, 136, 3, 1, 5, 79), (15, 3, 2, .ifCond .eq 13, 0, 0, 0, 99, 0), (18, 1, 0, .iload_n 3, 0, 0, 0, 99, 0), (19, 1, 0, .iconst 0, 0, 0, 0, 99, 0), (20, 2, 0, .bipush 9, 0, 0, 0, 99, 0), (22, 3, 4, .invokestatic 90, 136, 3, 1, 5, 79), (25, 3, 2, .ifCond .ne 5, 0, 0, 0, 99, 0), (28, 1, 0, .iconst (-1), 0, 0, 0, 99, 0), (29, 1, 2, .ireturn, 0, 0, 0, 99, 0), (30, 1, 0, .aload_n 0, 0, 0, 0, 99, 0), (31, 3, 3, .getfield 29, 8, 14, 1, 4, 179), (34, 1, 0, .iconst 3, 0, 0, 0, 99, 0), (35, 1, 0, .iload_n 1, 0, 0, 0, 99, 0), (36, 1, 1, .imul, 0, 0, 0, 99, 0), (37, 1, 0, .iconst 1, 0, 0, 0, 99, 0), (38, 1, 1, .iadd, 0, 0, 0, 99, 0), (39, 1, 0, .iload_n 2, 0, 0, 0, 99, 0), (40, 1, 3, .iastore, 0, 0, 0, 99, 0), (41, 1, 0, .aload_n 0, 0, 0, 0, 99, 0), (42, 3, 3, .getfield 29, 8, 14, 1, 4, 179), (45, 1, 0, .iconst 3, 0, 0, 0, 99, 0), (46, 1, 0, .iload_n 1, 0, 0, 0, 99, 0), (47, 1, 1, .imul, 0, 0, 0, 99, 0), (48, 1, 0, .iconst 2, 0, 0, 0, 99, 0), (49, 1, 1, .iadd, 0, 0, 0, 99, 0), (50, 1, 0, .iload_n 3, 0, 0, 0, 99, 0), (51, 1, 3, .iastore, 0, 0, 0, 99, 0), (52, 1, 0, .iconst 1, 0, 0, 0, 99, 0), (53, 1, 2, .ireturn, 0, 0, 0, 99, 0)]
def pgX8_late : List (Nat × Nat × z_En) := [(0, 1, 0, .aload_n 0, 0, 0, 0, 99, 0), (1, 1, 0, .iload_n 1, 0, 0, 0, 99, 0), (2, 3, 4, .invokevirtual 200, 171, 2, 0, 5, 207), (5, 3, 2, .ifCond .eq 28, 0, 0, 0, 99, 0), (8, 1, 0, .iload_n 2, 0, 0, 0, 99, 0), (9, 1, 0, .iconst 0, 0, 0, 0, 99, 0), (10, 2, 0, .bipush 60, 0, 0, 0, 99, 0), (12, 3, 4, .invokestatic 90, 136, 3, 1, 5, 79), (15, 3, 2, .ifCond .eq 18, 0, 0, 0, 99, 0), (18, 1, 0, .iload_n 3, 0, 0, 0, 99, 0), (19, 1, 0, .iconst 0, 0, 0, 0, 99, 0), (20, 2, 0, .bipush 60, 0, 0, 0, 99, 0), (22, 3, 4, .invokestatic 90, 136, 3, 1, 5, 79), (25, 3, 2, .ifCond .eq 8, 0, 0, 0, 99, 0), (28, 1, 0, .iload_n 2, 0, 0, 0, 99, 0), (29, 1, 0, .iload_n 3, 0, 0, 0, 99, 0), (30, 3, 2, .if_icmp .lt 5, 0, 0, 0, 99, 0), (33, 1, 0, .iconst (-1), 0, 0, 0, 99, 0), (34, 1, 2, .ireturn, 0, 0, 0, 99, 0), (35, 1, 0, .aload_n 0, 0, 0, 0, 99, 0), (36, 3, 3, .getfield 32, 8, 15, 1, 4, 180), (39, 1, 0, .iconst 3, 0, 0, 0, 99, 0), (40, 1, 0, .iload_n 1, 0, 0, 0, 99, 0), (41, 1, 1, .imul, 0, 0, 0, 99, 0), (42, 1, 0, .iload_n 2, 0, 0, 0, 99, 0), (43, 1, 3, .iastore, 0, 0, 0, 99, 0), (44, 1, 0, .aload_n 0, 0, 0, 0, 99, 0), (45, 3, 3, .getfield 32, 8, 15, 1, 4, 180), (48, 1, 0, .iconst 3, 0, 0, 0, 99, 0), (49, 1, 0, .iload_n 1, 0, 0, 0, 99, 0), (50, 1, 1, .imul, 0, 0, 0, 99, 0), (51, 1, 0, .iconst 1, 0, 0, 0, 99, 0), (52, 1, 1, .iadd, 0, 0, 0, 99, 0), (53, 1, 0, .iload_n 3, 0, 0, 0, 99, 0), (54, 1, 3, .iastore, 0, 0, 0, 99, 0), (55, 1, 0, .iconst 1, 0, 0, 0, 99, 0), (56, 1, 2, .ireturn, 0, 0, 0, 99, 0)]
def pgX8_isRead : List (Nat × Nat × z_En) := [(0, 1, 0, .aload_n 0, 0, 0, 0, 99, 0), (1, 3, 3, .getfield 59, 8, 32, 1, 4, 197), (4, 1, 0, .iload_n 1, 0, 0, 0, 99, 0), (5, 1, 3, .iaload, 0, 0, 0, 99, 0), (6, 2, 0, .bipush (-9), 0, 0, 0, 99, 0), (8, 3, 2, .if_icmp .eq 7, 0, 0, 0, 99, 0), (11, 1, 0, .iconst 1, 0, 0, 0, 99, 0), (12, 3, 2, .goto 4, 0, 0, 0, 99, 0), (15, 1, 0, .iconst 0, 0, 0, 0, 99, 0), (16, 1, 2, .ireturn, 0, 0, 3, 99, 0)]
def pgX8_endOf : List (Nat × Nat × z_En) := [(0, 1, 0, .aload_n 0, 0, 0, 0, 99, 0), (1, 3, 3, .getfield 59, 8, 32, 1, 4, 197), (4, 1, 0, .iload_n 1, 0, 0, 0, 99, 0), (5, 1, 3, .iaload, 0, 0, 0, 99, 0), (6, 1, 0, .aload_n 0, 0, 0, 0, 99, 0), (7, 1, 0, .iload_n 1, 0, 0, 0, 99, 0), (8, 3, 4, .invokevirtual 218, 175, 2, 0, 6, 35), (11, 1, 1, .iadd, 0, 0, 0, 99, 0), (12, 1, 2, .ireturn, 0, 0, 0, 99, 0)]
def pgX8_isReading : List (Nat × Nat × z_En) := [(0, 1, 0, .aload_n 0, 0, 0, 0, 99, 0), (1, 1, 0, .iload_n 1, 0, 0, 0, 99, 0), (2, 3, 4, .invokevirtual 221, 191, 2, 0, 6, 27), (5, 3, 2, .ifCond .eq 26, 0, 0, 0, 99, 0), (8, 1, 0, .aload_n 0, 0, 0, 0, 99, 0), (9, 3, 3, .getfield 59, 8, 32, 1, 4, 197), (12, 1, 0, .iload_n 1, 0, 0, 0, 99, 0), (13, 1, 3, .iaload, 0, 0, 0, 99, 0), (14, 1, 0, .iload_n 2, 0, 0, 0, 99, 0), (15, 3, 2, .if_icmp .gt 16, 0, 0, 0, 99, 0), (18, 1, 0, .iload_n 2, 0, 0, 0, 99, 0), (19, 1, 0, .aload_n 0, 0, 0, 0, 99, 0), (20, 1, 0, .iload_n 1, 0, 0, 0, 99, 0), (21, 3, 4, .invokevirtual 224, 192, 2, 0, 6, 31), (24, 3, 2, .if_icmp .ge 7, 0, 0, 0, 99, 0), (27, 1, 0, .iconst 1, 0, 0, 0, 99, 0), (28, 3, 2, .goto 4, 0, 0, 0, 99, 0), (31, 1, 0, .iconst 0, 0, 0, 0, 99, 0), (32, 1, 2, .ireturn, 0, 0, 3, 99, 0)]
def pgX8_read : List (Nat × Nat × z_En) := [(0, 1, 0, .aload_n 0, 0, 0, 0, 99, 0), (1, 1, 0, .iload_n 1, 0, 0, 0, 99, 0), (2, 3, 4, .invokevirtual 212, 172, 2, 0, 5, 223), (5, 3, 2, .ifCond .eq 19, 0, 0, 0, 99, 0), (8, 1, 0, .iload_n 2, 0, 0, 0, 99, 0), (9, 2, 0, .bipush (-9), 0, 0, 0, 99, 0), (11, 3, 2, .if_icmp .eq 15, 0, 0, 0, 99, 0), (14, 1, 0, .iload_n 2, 0, 0, 0, 99, 0), (15, 1, 0, .iconst 0, 0, 0, 0, 99, 0), (16, 2, 0, .bipush 59, 0, 0, 0, 99, 0), (18, 3, 4, .invokestatic 90, 136, 3, 1, 5, 79), (21, 3, 2, .ifCond .ne 5, 0, 0, 0, 99, 0), (24, 1, 0, .iconst (-1), 0, 0, 0, 99, 0), (25, 1, 2, .ireturn, 0, 0, 0, 99, 0), (26, 1, 0, .aload_n 0, 0, 0, 0, 99, 0), (27, 3, 3, .getfield 59, 8, 32, 1, 4, 197), (30, 1, 0, .iload_n 1, 0, 0, 0, 99, 0), (31, 1, 3, .iaload, 0, 0, 0, 99, 0), (32, 1, 0, .istore_n 3, 0, 0, 0, 99, 0), (33, 1, 0, .aload_n 0, 0, 0, 0, 99, 0), (34, 3, 3, .getfield 59, 8, 32, 1, 4, 197), (37, 1, 0, .iload_n 1, 0, 0, 0, 99, 0), (38, 1, 0, .iload_n 2, 0, 0, 0, 99, 0), (39, 1, 3, .iastore, 0, 0, 0, 99, 0), (40, 1, 0, .iload_n 3, 0, 0, 0, 99, 0), (41, 1, 2, .ireturn, 0, 0, 0, 99, 0)]
def pgX8_readingMany : List (Nat × Nat × z_En) := [(0, 1, 0, .iconst 0, 0, 0, 0, 99, 0), (1, 1, 0, .istore_n 3, 0, 0, 0, 99, 0), (2, 1, 0, .iconst 0, 0, 0, 0, 99, 0), (3, 2, 0, .istore 4, 0, 0, 0, 99, 0), (5, 2, 0, .iload 4, 0, 0, 0, 99, 0), (7, 1, 0, .aload_n 0, 0, 0, 0, 99, 0), (8, 3, 3, .getfield 185, 8, 11, 0, 4, 176), (11, 3, 2, .if_icmp .ge 37, 0, 0, 0, 99, 0), (14, 1, 0, .iload_n 3, 0, 0, 0, 99, 0), (15, 1, 0, .aload_n 0, 0, 0, 0, 99, 0), (16, 2, 0, .iload 4, 0, 0, 0, 99, 0), (18, 3, 4, .invokevirtual 206, 174, 2, 0, 5, 231), (21, 1, 0, .iload_n 1, 0, 0, 0, 99, 0), (22, 3, 2, .if_icmp .ne 17, 0, 0, 0, 99, 0), (25, 1, 0, .aload_n 0, 0, 0, 0, 99, 0), (26, 2, 0, .iload 4, 0, 0, 0, 99, 0), (28, 1, 0, .iload_n 2, 0, 0, 0, 99, 0), (29, 3, 4, .invokevirtual 227, 193, 3, 0, 6, 23), (32, 3, 2, .ifCond .eq 7, 0, 0, 0, 99, 0), (35, 1, 0, .iconst 1, 0, 0, 0, 99, 0), (36, 3, 2, .goto 4, 0, 0, 0, 99, 0), (39, 1, 0, .iconst 0, 0, 0, 0, 99, 0), (40, 1, 1, .iadd, 0, 0, 0, 99, 0), (41, 1, 0, .istore_n 3, 0, 0, 0, 99, 0), (42, 3, 0, .iinc 4 1, 0, 0, 0, 99, 0), (45, 3, 2, .goto (-40), 0, 0, 0, 99, 0), (48, 1, 0, .iload_n 3, 0, 0, 0, 99, 0), (49, 1, 2, .ireturn, 0, 0, 0, 99, 0)]
def pgX8_doesRead : List (Nat × Nat × z_En) := [(0, 1, 0, .iconst 0, 0, 0, 0, 99, 0), (1, 2, 0, .istore 4, 0, 0, 0, 99, 0), (3, 1, 0, .iconst 0, 0, 0, 0, 99, 0), (4, 2, 0, .istore 5, 0, 0, 0, 99, 0), (6, 2, 0, .iload 5, 0, 0, 0, 99, 0), (8, 1, 0, .aload_n 0, 0, 0, 0, 99, 0), (9, 3, 3, .getfield 185, 8, 11, 0, 4, 176), (12, 3, 2, .if_icmp .ge 47, 0, 0, 0, 99, 0), (15, 2, 0, .iload 4, 0, 0, 0, 99, 0), (17, 3, 2, .ifCond .ne 29, 0, 0, 0, 99, 0), (20, 2, 0, .iload 5, 0, 0, 0, 99, 0), (22, 1, 0, .iload_n 3, 0, 0, 0, 99, 0), (23, 3, 2, .if_icmp .eq 27, 0, 0, 0, 99, 0), (26, 1, 0, .aload_n 0, 0, 0, 0, 99, 0), (27, 2, 0, .iload 5, 0, 0, 0, 99, 0), (29, 3, 4, .invokevirtual 197, 173, 2, 0, 5, 215), (32, 1, 0, .iload_n 1, 0, 0, 0, 99, 0), (33, 3, 2, .if_icmp .ne 17, 0, 0, 0, 99, 0), (36, 1, 0, .aload_n 0, 0, 0, 0, 99, 0), (37, 2, 0, .iload 5, 0, 0, 0, 99, 0), (39, 1, 0, .iload_n 2, 0, 0, 0, 99, 0), (40, 3, 4, .invokevirtual 227, 193, 3, 0, 6, 23), (43, 3, 2, .ifCond .eq 7, 0, 0, 0, 99, 0), (46, 1, 0, .iconst 1, 0, 0, 0, 99, 0), (47, 3, 2, .goto 4, 0, 0, 0, 99, 0), (50, 1, 0, .iconst 0, 0, 0, 0, 99, 0), (51, 2, 0, .istore 4, 0, 0, 0, 99, 0), (53, 3, 0, .iinc 5 1, 0, 0, 0, 99, 0), (56, 3, 2, .goto (-50), 0, 0, 0, 99, 0), (59, 2, 0, .iload 4, 0, 0, 0, 99, 0), (61, 1, 2, .ireturn, 0, 0, 3, 99, 0)]
def pgX8_isDue : List (Nat × Nat × z_En) := [(0, 1, 0, .iconst 1, 0, 0, 0, 99, 0), (1, 1, 0, .istore_n 3, 0, 0, 0, 99, 0), (2, 1, 0, .iconst 0, 0, 0, 0, 99, 0), (3, 2, 0, .istore 4, 0, 0, 0, 99, 0), (5, 2, 0, .iload 4, 0, 0, 0, 99, 0), (7, 1, 0, .iload_n 1, 0, 0, 0, 99, 0), (8, 3, 2, .if_icmp .ge 64, 0, 0, 0, 99, 0), (11, 1, 0, .aload_n 0, 0, 0, 0, 99, 0), (12, 1, 0, .aload_n 0, 0, 0, 0, 99, 0), (13, 1, 0, .iload_n 1, 0, 0, 0, 99, 0), (14, 3, 4, .invokevirtual 197, 173, 2, 0, 5, 215), (17, 3, 4, .invokevirtual 230, 180, 2, 0, 6, 75), (20, 3, 2, .ifCond .eq 52, 0, 0, 0, 99, 0), (23, 1, 0, .iload_n 3, 0, 0, 0, 99, 0), (24, 3, 2, .ifCond .eq 40, 0, 0, 0, 99, 0), (27, 1, 0, .aload_n 0, 0, 0, 0, 99, 0), (28, 2, 0, .iload 4, 0, 0, 0, 99, 0), (30, 3, 4, .invokevirtual 197, 173, 2, 0, 5, 215), (33, 1, 0, .aload_n 0, 0, 0, 0, 99, 0), (34, 1, 0, .iload_n 1, 0, 0, 0, 99, 0), (35, 3, 4, .invokevirtual 197, 173, 2, 0, 5, 215), (38, 3, 2, .if_icmp .ne 22, 0, 0, 0, 99, 0), (41, 1, 0, .aload_n 0, 0, 0, 0, 99, 0), (42, 2, 0, .iload 4, 0, 0, 0, 99, 0), (44, 3, 4, .invokevirtual 221, 191, 2, 0, 6, 27), (47, 3, 2, .ifCond .eq 17, 0, 0, 0, 99, 0), (50, 1, 0, .aload_n 0, 0, 0, 0, 99, 0), (51, 2, 0, .iload 4, 0, 0, 0, 99, 0), (53, 3, 4, .invokevirtual 224, 192, 2, 0, 6, 31), (56, 1, 0, .iload_n 2, 0, 0, 0, 99, 0), (57, 3, 2, .if_icmp .gt 7, 0, 0, 0, 99, 0), (60, 1, 0, .iconst 1, 0, 0, 0, 99, 0), (61, 3, 2, .goto 4, 0, 0, 0, 99, 0), (64, 1, 0, .iconst 0, 0, 0, 0, 99, 0), (65, 1, 0, .istore_n 3, 0, 0, 0, 99, 0), (66, 3, 0, .iinc 4 1, 0, 0, 0, 99, 0), (69, 3, 2, .goto (-64), 0, 0, 0, 99, 0), (72, 1, 0, .iload_n 3, 0, 0, 0, 99, 0), (73, 1, 2, .ireturn, 0, 0, 3, 99, 0)]
def pgX8_isSpoilt : List (Nat × Nat × z_En) := [(0, 1, 0, .iconst 0, 0, 0, 0, 99, 0), (1, 1, 0, .istore_n 3, 0, 0, 0, 99, 0), (2, 1, 0, .iconst 0, 0, 0, 0, 99, 0), (3, 2, 0, .istore 4, 0, 0, 0, 99, 0), (5, 2, 0, .iload 4, 0, 0, 0, 99, 0), (7, 1, 0, .aload_n 0, 0, 0, 0, 99, 0), (8, 3, 3, .getfield 185, 8, 11, 0, 4, 176), (11, 3, 2, .if_icmp .ge 88, 0, 0, 0, 99, 0), (14, 1, 0, .aload_n 0, 0, 0, 0, 99, 0), (15, 2, 0, .iload 4, 0, 0, 0, 99, 0), (17, 3, 4, .invokevirtual 206, 174, 2, 0, 5, 231), (20, 1, 0, .aload_n 0, 0, 0, 0, 99, 0), (21, 1, 0, .iload_n 1, 0, 0, 0, 99, 0), (22, 3, 4, .invokevirtual 206, 174, 2, 0, 5, 231), (25, 3, 2, .if_icmp .ne 27, 0, 0, 0, 99, 0), (28, 1, 0, .aload_n 0, 0, 0, 0, 99, 0), (29, 2, 0, .iload 4, 0, 0, 0, 99, 0), (31, 3, 4, .invokevirtual 221, 191, 2, 0, 6, 27), (34, 3, 2, .ifCond .eq 18, 0, 0, 0, 99, 0), (37, 1, 0, .aload_n 0, 0, 0, 0, 99, 0), (38, 3, 3, .getfield 59, 8, 32, 1, 4, 197), (41, 2, 0, .iload 4, 0, 0, 0, 99, 0), (43, 1, 3, .iaload, 0, 0, 0, 99, 0), (44, 1, 0, .iload_n 2, 0, 0, 0, 99, 0), (45, 3, 2, .if_icmp .ge 7, 0, 0, 0, 99, 0), (48, 1, 0, .iconst 1, 0, 0, 0, 99, 0), (49, 3, 2, .goto 4, 0, 0, 0, 99, 0), (52, 1, 0, .iconst 0, 0, 0, 0, 99, 0), (53, 2, 0, .istore 5, 0, 0, 0, 99, 0), (55, 1, 0, .iload_n 3, 0, 0, 0, 99, 0), (56, 3, 2, .ifCond .ne 31, 0, 0, 0, 99, 0), (59, 2, 0, .iload 5, 0, 0, 0, 99, 0), (61, 3, 2, .ifCond .eq 30, 0, 0, 0, 99, 0), (64, 1, 0, .aload_n 0, 0, 0, 0, 99, 0), (65, 1, 0, .aload_n 0, 0, 0, 0, 99, 0), (66, 1, 0, .iload_n 1, 0, 0, 0, 99, 0), (67, 3, 4, .invokevirtual 197, 173, 2, 0, 5, 215), (70, 1, 0, .aload_n 0, 0, 0, 0, 99, 0), (71, 2, 0, .iload 4, 0, 0, 0, 99, 0), (73, 3, 4, .invokevirtual 197, 173, 2, 0, 5, 215), (76, 1, 0, .aload_n 0, 0, 0, 0, 99, 0), (77, 1, 0, .iload_n 1, 0, 0, 0, 99, 0), (78, 3, 4, .invokevirtual 206, 174, 2, 0, 5, 231), (81, 3, 4, .invokevirtual 209, 181, 4, 0, 5, 235), (84, 3, 2, .ifCond .eq 7, 0, 0, 0, 99, 0), (87, 1, 0, .iconst 1, 0, 0, 0, 99, 0), (88, 3, 2, .goto 4, 0, 0, 0, 99, 0), (91, 1, 0, .iconst 0, 0, 0, 0, 99, 0), (92, 1, 0, .istore_n 3, 0, 0, 0, 99, 0), (93, 3, 0, .iinc 4 1, 0, 0, 0, 99, 0), (96, 3, 2, .goto (-91), 0, 0, 0, 99, 0), (99, 1, 0, .iload_n 3, 0, 0, 0, 99, 0), (100, 1, 2, .ireturn, 0, 0, 3, 99, 0)]
def pgX8_isWell : List (Nat × Nat × z_En) := [(0, 1, 0, .aload_n 0, 0, 0, 0, 99, 0), (1, 1, 0, .iload_n 1, 0, 0, 0, 99, 0), (2, 3, 4, .invokevirtual 197, 173, 2, 0, 5, 215), (5, 1, 0, .istore_n 3, 0, 0, 0, 99, 0), (6, 1, 0, .aload_n 0, 0, 0, 0, 99, 0), (7, 1, 0, .iload_n 1, 0, 0, 0, 99, 0), (8, 3, 4, .invokevirtual 206, 174, 2, 0, 5, 231), (11, 2, 0, .istore 4, 0, 0, 0, 99, 0), (13, 1, 0, .iload_n 2, 0, 0, 0, 99, 0), (14, 1, 0, .aload_n 0, 0, 0, 0, 99, 0), (15, 1, 0, .iload_n 3, 0, 0, 0, 99, 0), (16, 3, 4, .invokevirtual 233, 178, 2, 0, 6, 43), (19, 1, 0, .aload_n 0, 0, 0, 0, 99, 0), (20, 1, 0, .iload_n 3, 0, 0, 0, 99, 0), (21, 3, 4, .invokevirtual 236, 179, 2, 0, 6, 47), (24, 1, 0, .iconst 1, 0, 0, 0, 99, 0), (25, 1, 1, .isub, 0, 0, 0, 99, 0), (26, 3, 4, .invokestatic 90, 136, 3, 1, 5, 79), (29, 3, 2, .ifCond .eq 36, 0, 0, 0, 99, 0), (32, 1, 0, .iload_n 2, 0, 0, 0, 99, 0), (33, 1, 0, .aload_n 0, 0, 0, 0, 99, 0), (34, 3, 3, .getfield 83, 8, 8, 0, 4, 173), (37, 3, 2, .if_icmp .ge 28, 0, 0, 0, 99, 0), (40, 1, 0, .iload_n 2, 0, 0, 0, 99, 0), (41, 1, 0, .aload_n 0, 0, 0, 0, 99, 0), (42, 2, 0, .iload 4, 0, 0, 0, 99, 0), (44, 3, 4, .invokevirtual 239, 177, 2, 0, 6, 51), (47, 3, 2, .if_icmp .lt 18, 0, 0, 0, 99, 0), (50, 1, 0, .aload_n 0, 0, 0, 0, 99, 0), (51, 2, 0, .iload 4, 0, 0, 0, 99, 0), (53, 1, 0, .iload_n 2, 0, 0, 0, 99, 0), (54, 1, 0, .iconst 1, 0, 0, 0, 99, 0), (55, 3, 4, .invokevirtual 242, 182, 4, 0, 6, 55), (58, 3, 2, .ifCond .ne 7, 0, 0, 0, 99, 0), (61, 1, 0, .iconst 1, 0, 0, 0, 99, 0), (62, 3, 2, .goto 4, 0, 0, 0, 99, 0), (65, 1, 0, .iconst 0, 0, 0, 0, 99, 0), (66, 2, 0, .istore 5, 0, 0, 0, 99, 0), (68, 1, 0, .aload_n 0, 0, 0, 0, 99, 0), (69, 2, 0, .iload 4, 0, 0, 0, 99, 0), (71, 1, 0, .iload_n 2, 0, 0, 0, 99, 0), (72, 3, 4, .invokevirtual 245, 195, 3, 0, 6, 59), (75, 1, 0, .aload_n 0, 0, 0, 0, 99, 0), (76, 2, 0, .iload 4, 0, 0, 0, 99, 0), (78, 3, 4, .invokevirtual 248, 176, 2, 0, 6, 63), (81, 3, 2, .if_icmp .gt 17, 0, 0, 0, 99, 0), (84, 1, 0, .aload_n 0, 0, 0, 0, 99, 0), (85, 1, 0, .iload_n 3, 0, 0, 0, 99, 0), (86, 1, 0, .iload_n 2, 0, 0, 0, 99, 0), (87, 1, 0, .iload_n 1, 0, 0, 0, 99, 0), (88, 3, 4, .invokevirtual 251, 196, 4, 0, 6, 67), (91, 3, 2, .ifCond .ne 7, 0, 0, 0, 99, 0), (94, 1, 0, .iconst 1, 0, 0, 0, 99, 0), (95, 3, 2, .goto 4, 0, 0, 0, 99, 0), (98, 1, 0, .iconst 0, 0, 0, 0, 99, 0), (99, 2, 0, .istore 6, 0, 0, 0, 99, 0), (101, 2, 0, .iload 5, 0, 0, 0, 99, 0), (103, 3, 2, .ifCond .eq 40, 0, 0, 0, 99, 0), (106, 2, 0, .iload 6, 0, 0, 0, 99, 0), (108, 3, 2, .ifCond .eq 35, 0, 0, 0, 99, 0), (111, 1, 0, .aload_n 0, 0, 0, 0, 99, 0), (112, 3, 3, .getfield 59, 8, 32, 1, 4, 197), (115, 1, 0, .iload_n 1, 0, 0, 0, 99, 0), (116, 1, 3, .iaload, 0, 0, 0, 99, 0), (117, 1, 0, .iload_n 2, 0, 0, 0, 99, 0), (118, 3, 2, .if_icmp .ne 21, 0, 0, 0, 99, 0), (121, 1, 0, .aload_n 0, 0, 0, 0, 99, 0), (122, 1, 0, .iload_n 1, 0, 0, 0, 99, 0), (123, 1, 0, .iload_n 2, 0, 0, 0, 99, 0), (124, 3, 4, .invokevirtual 254, 197, 3, 0, 6, 71), (127, 3, 2, .ifCond .eq 16, 0, 0, 0, 99, 0), (130, 1, 0, .aload_n 0, 0, 0, 0, 99, 0), (131, 1, 0, .iload_n 1, 0, 0, 0, 99, 0), (132, 1, 0, .iload_n 2, 0, 0, 0, 99, 0), (133, 3, 4, .invokevirtual 257, 198, 3, 0, 6, 79), (136, 3, 2, .ifCond .ne 7, 0, 0, 0, 99, 0), (139, 1, 0, .iconst 1, 0, 0, 0, 99, 0), (140, 3, 2, .goto 4, 0, 0, 0, 99, 0), (143, 1, 0, .iconst 0, 0, 0, 0, 99, 0), (144, 1, 2, .ireturn, 0, 0, 3, 99, 0)]
def pgX8_firstBad : List (Nat × Nat × z_En) := [(0, 1, 0, .iconst 0, 0, 0, 0, 99, 0), (1, 1, 0, .istore_n 1, 0, 0, 0, 99, 0), (2, 1, 0, .iload_n 1, 0, 0, 0, 99, 0), (3, 2, 0, .bipush 80, 0, 0, 0, 99, 0), (5, 3, 2, .if_icmp .ge 45, 0, 0, 0, 99, 0), (8, 1, 0, .iconst 0, 0, 0, 0, 99, 0), (9, 1, 0, .istore_n 2, 0, 0, 0, 99, 0), (10, 1, 0, .iload_n 2, 0, 0, 0, 99, 0), (11, 1, 0, .aload_n 0, 0, 0, 0, 99, 0), (12, 3, 3, .getfield 185, 8, 11, 0, 4, 176), (15, 3, 2, .if_icmp .ge 29, 0, 0, 0, 99, 0), (18, 1, 0, .aload_n 0, 0, 0, 0, 99, 0), (19, 1, 0, .iload_n 2, 0, 0, 0, 99, 0), (20, 1, 0, .iload_n 1, 0, 0, 0, 99, 0), (21, 3, 4, .invokevirtual 227, 193, 3, 0, 6, 23), (24, 3, 2, .ifCond .eq 14, 0, 0, 0, 99, 0), (27, 1, 0, .aload_n 0, 0, 0, 0, 99, 0), (28, 1, 0, .iload_n 2, 0, 0, 0, 99, 0), (29, 1, 0, .iload_n 1, 0, 0, 0, 99, 0), (30, 3, 4, .invokevirtual 260, 199, 3, 0, 6, 39), (33, 3, 2, .ifCond .ne 5, 0, 0, 0, 99, 0), (36, 1, 0, .iload_n 1, 0, 0, 0, 99, 0), (37, 1, 2, .ireturn, 0, 0, 0, 99, 0), (38, 3, 0, .iinc 2 1, 0, 0, 0, 99, 0), (41, 3, 2, .goto (-31), 0, 0, 0, 99, 0), (44, 3, 0, .iinc 1 1, 0, 0, 0, 99, 0), (47, 3, 2, .goto (-45), 0, 0, 0, 99, 0), (50, 2, 0, .bipush (-9), 0, 0, 0, 99, 0), (52, 1, 2, .ireturn, 0, 0, 0, 99, 0)]
def pgX8_judge : List (Nat × Nat × z_En) := [(0, 1, 0, .aload_n 0, 0, 0, 0, 99, 0), (1, 3, 4, .invokevirtual 263, 200, 1, 0, 6, 19), (4, 1, 2, .ireturn, 0, 0, 0, 99, 0)]
def pgX8_worthAt : List (Nat × Nat × z_En) := [(0, 1, 0, .iconst 0, 0, 0, 0, 99, 0), (1, 1, 0, .aload_n 0, 0, 0, 0, 99, 0), (2, 3, 3, .getfield 35, 8, 16, 1, 4, 181), (5, 1, 0, .iconst 4, 0, 0, 0, 99, 0), (6, 1, 0, .iload_n 1, 0, 0, 0, 99, 0), (7, 1, 1, .imul, 0, 0, 0, 99, 0), (8, 1, 0, .iconst 3, 0, 0, 0, 99, 0), (9, 1, 1, .iadd, 0, 0, 0, 99, 0), (10, 1, 3, .iaload, 0, 0, 0, 99, 0), (11, 1, 0, .aload_n 0, 0, 0, 0, 99, 0), (12, 3, 3, .getfield 29, 8, 14, 1, 4, 179), (15, 1, 0, .iconst 3, 0, 0, 0, 99, 0), (16, 1, 0, .aload_n 0, 0, 0, 0, 99, 0), (17, 1, 0, .iload_n 1, 0, 0, 0, 99, 0), (18, 3, 4, .invokevirtual 206, 174, 2, 0, 5, 231), (21, 1, 1, .imul, 0, 0, 0, 99, 0), (22, 1, 0, .iconst 2, 0, 0, 0, 99, 0), (23, 1, 1, .iadd, 0, 0, 0, 99, 0), (24, 1, 3, .iaload, 0, 0, 0, 99, 0), (25, 1, 0, .iload_n 2, 0, 0, 0, 99, 0), (26, 2, 0, .bipush 10, 0, 0, 0, 99, 0), (28, 1, 1, .idiv, 0, 0, 0, 99, 0), (29, 1, 1, .imul, 0, 0, 0, 99, 0), (30, 1, 1, .isub, 0, 0, 0, 99, 0), (31, 3, 4, .invokestatic 267, 139, 2, 1, 6, 95), (34, 1, 2, .ireturn, 0, 0, 0, 99, 0)]
def pgX8_missedOf : List (Nat × Nat × z_En) := [(0, 1, 0, .iconst 0, 0, 0, 0, 99, 0), (1, 1, 0, .istore_n 2, 0, 0, 0, 99, 0), (2, 1, 0, .iconst 0, 0, 0, 0, 99, 0), (3, 1, 0, .istore_n 3, 0, 0, 0, 99, 0), (4, 1, 0, .iload_n 3, 0, 0, 0, 99, 0), (5, 1, 0, .aload_n 0, 0, 0, 0, 99, 0), (6, 3, 3, .getfield 185, 8, 11, 0, 4, 176), (9, 3, 2, .if_icmp .ge 77, 0, 0, 0, 99, 0), (12, 1, 0, .iload_n 1, 0, 0, 0, 99, 0), (13, 2, 0, .bipush (-9), 0, 0, 0, 99, 0), (15, 3, 2, .if_icmp .eq 12, 0, 0, 0, 99, 0), (18, 1, 0, .aload_n 0, 0, 0, 0, 99, 0), (19, 1, 0, .iload_n 3, 0, 0, 0, 99, 0), (20, 3, 4, .invokevirtual 197, 173, 2, 0, 5, 215), (23, 1, 0, .iload_n 1, 0, 0, 0, 99, 0), (24, 3, 2, .if_icmp .ne 7, 0, 0, 0, 99, 0), (27, 1, 0, .iconst 1, 0, 0, 0, 99, 0), (28, 3, 2, .goto 4, 0, 0, 0, 99, 0), (31, 1, 0, .iconst 0, 0, 0, 0, 99, 0), (32, 2, 0, .istore 4, 0, 0, 0, 99, 0), (34, 1, 0, .iload_n 2, 0, 0, 0, 99, 0), (35, 2, 0, .iload 4, 0, 0, 0, 99, 0), (37, 3, 2, .ifCond .eq 40, 0, 0, 0, 99, 0), (40, 1, 0, .aload_n 0, 0, 0, 0, 99, 0), (41, 3, 3, .getfield 35, 8, 16, 1, 4, 181), (44, 1, 0, .iconst 4, 0, 0, 0, 99, 0), (45, 1, 0, .iload_n 3, 0, 0, 0, 99, 0), (46, 1, 1, .imul, 0, 0, 0, 99, 0), (47, 1, 0, .iconst 3, 0, 0, 0, 99, 0), (48, 1, 1, .iadd, 0, 0, 0, 99, 0), (49, 1, 3, .iaload, 0, 0, 0, 99, 0), (50, 1, 0, .aload_n 0, 0, 0, 0, 99, 0), (51, 1, 0, .iload_n 3, 0, 0, 0, 99, 0), (52, 3, 4, .invokevirtual 221, 191, 2, 0, 6, 27), (55, 3, 2, .ifCond .eq 17, 0, 0, 0, 99, 0), (58, 1, 0, .aload_n 0, 0, 0, 0, 99, 0), (59, 1, 0, .iload_n 3, 0, 0, 0, 99, 0), (60, 1, 0, .aload_n 0, 0, 0, 0, 99, 0), (61, 3, 3, .getfield 59, 8, 32, 1, 4, 197), (64, 1, 0, .iload_n 3, 0, 0, 0, 99, 0), (65, 1, 3, .iaload, 0, 0, 0, 99, 0), (66, 3, 4, .invokevirtual 270, 202, 3, 0, 6, 91), (69, 3, 2, .goto 4, 0, 0, 0, 99, 0), (72, 1, 0, .iconst 0, 0, 0, 0, 99, 0), (73, 1, 1, .isub, 0, 0, 0, 99, 0), (74, 3, 2, .goto 4, 0, 0, 0, 99, 0), (77, 1, 0, .iconst 0, 0, 0, 0, 99, 0), (78, 1, 1, .iadd, 0, 0, 0, 99, 0), (79, 1, 0, .istore_n 2, 0, 0, 0, 99, 0), (80, 3, 0, .iinc 3 1, 0, 0, 0, 99, 0), (83, 3, 2, .goto (-79), 0, 0, 0, 99, 0), (86, 1, 0, .iload_n 2, 0, 0, 0, 99, 0), (87, 1, 2, .ireturn, 0, 0, 0, 99, 0)]
def pgX8_missed : List (Nat × Nat × z_En) := [(0, 1, 0, .iload_n 1, 0, 0, 0, 99, 0), (1, 2, 0, .bipush (-9), 0, 0, 0, 99, 0), (3, 3, 2, .if_icmp .eq 11, 0, 0, 0, 99, 0), (6, 1, 0, .aload_n 0, 0, 0, 0, 99, 0), (7, 1, 0, .iload_n 1, 0, 0, 0, 99, 0), (8, 3, 4, .invokevirtual 200, 171, 2, 0, 5, 207), (11, 3, 2, .ifCond .eq 11, 0, 0, 0, 99, 0), (14, 1, 0, .aload_n 0, 0, 0, 0, 99, 0), (15, 1, 0, .iload_n 1, 0, 0, 0, 99, 0), (16, 3, 4, .invokevirtual 273, 203, 2, 0, 6, 87), (19, 3, 2, .goto 4, 0, 0, 0, 99, 0), (22, 1, 0, .iconst (-1), 0, 0, 0, 99, 0), (23, 1, 2, .ireturn, 0, 0, 0, 99, 0)]
def pgX8_who : List (Nat × Nat × z_En) := [(0, 1, 0, .aload_n 0, 0, 0, 0, 99, 0), (1, 1, 0, .iload_n 1, 0, 0, 0, 99, 0), (2, 3, 4, .invokevirtual 194, 170, 2, 0, 5, 199), (5, 3, 2, .ifCond .eq 13, 0, 0, 0, 99, 0), (8, 1, 0, .iload_n 2, 0, 0, 0, 99, 0), (9, 1, 0, .iconst 0, 0, 0, 0, 99, 0), (10, 2, 0, .bipush 60, 0, 0, 0, 99, 0), (12, 3, 4, .invokestatic 90, 136, 3, 1, 5, 79), (15, 3, 2, .ifCond .ne 5, 0, 0, 0, 99, 0), (18, 1, 0, .iconst (-1), 0, 0, 0, 99, 0), (19, 1, 2, .ireturn, 0, 0, 0, 99, 0), (20, 1, 0, .iconst 0, 0, 0, 0, 99, 0), (21, 1, 0, .istore_n 3, 0, 0, 0, 99, 0), (22, 1, 0, .iconst 0, 0, 0, 0, 99, 0), (23, 2, 0, .istore 4, 0, 0, 0, 99, 0), (25, 2, 0, .iload 4, 0, 0, 0, 99, 0), (27, 1, 0, .aload_n 0, 0, 0, 0, 99, 0), (28, 3, 3, .getfield 185, 8, 11, 0, 4, 176), (31, 3, 2, .if_icmp .ge 44, 0, 0, 0, 99, 0), (34, 1, 0, .iload_n 3, 0, 0, 0, 99, 0), (35, 1, 0, .aload_n 0, 0, 0, 0, 99, 0), (36, 2, 0, .iload 4, 0, 0, 0, 99, 0), (38, 3, 4, .invokevirtual 206, 174, 2, 0, 5, 231), (41, 1, 0, .iload_n 1, 0, 0, 0, 99, 0), (42, 3, 2, .if_icmp .ne 24, 0, 0, 0, 99, 0), (45, 1, 0, .aload_n 0, 0, 0, 0, 99, 0), (46, 2, 0, .iload 4, 0, 0, 0, 99, 0), (48, 1, 0, .iload_n 2, 0, 0, 0, 99, 0), (49, 3, 4, .invokevirtual 227, 193, 3, 0, 6, 23), (52, 3, 2, .ifCond .eq 14, 0, 0, 0, 99, 0), (55, 1, 0, .iconst 1, 0, 0, 0, 99, 0), (56, 1, 0, .aload_n 0, 0, 0, 0, 99, 0), (57, 2, 0, .iload 4, 0, 0, 0, 99, 0), (59, 3, 4, .invokevirtual 197, 173, 2, 0, 5, 215), (62, 1, 1, .ishl, 0, 0, 0, 99, 0), (63, 3, 2, .goto 4, 0, 0, 0, 99, 0), (66, 1, 0, .iconst 0, 0, 0, 0, 99, 0), (67, 1, 1, .ior, 0, 0, 0, 99, 0), (68, 1, 0, .istore_n 3, 0, 0, 0, 99, 0), (69, 3, 0, .iinc 4 1, 0, 0, 0, 99, 0), (72, 3, 2, .goto (-47), 0, 0, 0, 99, 0), (75, 1, 0, .iload_n 3, 0, 0, 0, 99, 0), (76, 1, 2, .ireturn, 0, 0, 0, 99, 0)]
def pgX8_can : List (Nat × Nat × z_En) := [(0, 1, 0, .aload_n 0, 0, 0, 0, 99, 0), (1, 1, 0, .iload_n 1, 0, 0, 0, 99, 0), (2, 3, 4, .invokevirtual 200, 171, 2, 0, 5, 207), (5, 3, 2, .ifCond .eq 13, 0, 0, 0, 99, 0), (8, 1, 0, .iload_n 2, 0, 0, 0, 99, 0), (9, 1, 0, .iconst 0, 0, 0, 0, 99, 0), (10, 2, 0, .bipush 59, 0, 0, 0, 99, 0), (12, 3, 4, .invokestatic 90, 136, 3, 1, 5, 79), (15, 3, 2, .ifCond .ne 5, 0, 0, 0, 99, 0), (18, 1, 0, .iconst (-1), 0, 0, 0, 99, 0), (19, 1, 2, .ireturn, 0, 0, 0, 99, 0), (20, 1, 0, .aload_n 0, 0, 0, 0, 99, 0), (21, 3, 4, .invokevirtual 263, 200, 1, 0, 6, 19), (24, 2, 0, .bipush (-9), 0, 0, 0, 99, 0), (26, 3, 2, .if_icmp .eq 6, 0, 0, 0, 99, 0), (29, 2, 0, .bipush (-4), 0, 0, 0, 99, 0), (31, 1, 2, .ireturn, 0, 0, 0, 99, 0), (32, 1, 0, .iconst 0, 0, 0, 0, 99, 0), (33, 1, 0, .istore_n 3, 0, 0, 0, 99, 0), (34, 1, 0, .iconst 0, 0, 0, 0, 99, 0), (35, 2, 0, .istore 4, 0, 0, 0, 99, 0), (37, 2, 0, .iload 4, 0, 0, 0, 99, 0), (39, 1, 0, .aload_n 0, 0, 0, 0, 99, 0), (40, 3, 3, .getfield 185, 8, 11, 0, 4, 176), (43, 3, 2, .if_icmp .ge 65, 0, 0, 0, 99, 0), (46, 1, 0, .aload_n 0, 0, 0, 0, 99, 0), (47, 2, 0, .iload 4, 0, 0, 0, 99, 0), (49, 3, 4, .invokevirtual 197, 173, 2, 0, 5, 215), (52, 1, 0, .iload_n 1, 0, 0, 0, 99, 0), (53, 3, 2, .if_icmp .ne 49, 0, 0, 0, 99, 0), (56, 1, 0, .aload_n 0, 0, 0, 0, 99, 0), (57, 2, 0, .iload 4, 0, 0, 0, 99, 0), (59, 3, 4, .invokevirtual 221, 191, 2, 0, 6, 27), (62, 3, 2, .ifCond .ne 40, 0, 0, 0, 99, 0), (65, 1, 0, .aload_n 0, 0, 0, 0, 99, 0), (66, 3, 3, .getfield 59, 8, 32, 1, 4, 197), (69, 2, 0, .iload 4, 0, 0, 0, 99, 0), (71, 1, 0, .iload_n 2, 0, 0, 0, 99, 0), (72, 1, 3, .iastore, 0, 0, 0, 99, 0), (73, 1, 0, .iload_n 3, 0, 0, 0, 99, 0), (74, 1, 0, .aload_n 0, 0, 0, 0, 99, 0), (75, 3, 4, .invokevirtual 263, 200, 1, 0, 6, 19), (78, 2, 0, .bipush (-9), 0, 0, 0, 99, 0), (80, 3, 2, .if_icmp .ne 10, 0, 0, 0, 99, 0), (83, 1, 0, .iconst 1, 0, 0, 0, 99, 0), (84, 2, 0, .iload 4, 0, 0, 0, 99, 0), (86, 1, 1, .ishl, 0, 0, 0, 99, 0), (87, 3, 2, .goto 4, 0, 0, 0, 99, 0), (90, 1, 0, .iconst 0, 0, 0, 0, 99, 0), (91, 1, 1, .ior, 0, 0, 0, 99, 0), (92, 1, 0, .istore_n 3, 0, 0, 0, 99, 0), (93, 1, 0, .aload_n 0, 0, 0, 0, 99, 0), (94, 3, 3, .getfield 59, 8, 32, 1, 4, 197), (97, 2, 0, .iload 4, 0, 0, 0, 99, 0), (99, 2, 0, .bipush (-9), 0, 0, 0, 99, 0), (101, 1, 3, .iastore, 0, 0, 0, 99, 0), (102, 3, 0, .iinc 4 1, 0, 0, 0, 99, 0), (105, 3, 2, .goto (-68), 0, 0, 0, 99, 0), (108, 1, 0, .iload_n 3, 0, 0, 0, 99, 0), (109, 1, 2, .ireturn, 0, 0, 0, 99, 0)]
def pgX8_image : List (Nat × Nat × z_En) := [(0, 1, 0, .iload_n 1, 0, 0, 0, 99, 0), (1, 3, 4, .invokestatic 97, 145, 1, 1, 5, 90), (4, 3, 2, .ifCond .ne 5, 0, 0, 0, 99, 0), (7, 1, 0, .iconst (-1), 0, 0, 0, 99, 0), (8, 1, 2, .ireturn, 0, 0, 0, 99, 0), (9, 1, 0, .aload_n 0, 0, 0, 0, 99, 0), (10, 3, 3, .getfield 13, 8, 3, 1, 4, 168), (13, 1, 0, .iload_n 1, 0, 0, 0, 99, 0), (14, 1, 0, .aload_n 0, 0, 0, 0, 99, 0), (15, 3, 3, .getfield 185, 8, 11, 0, 4, 176), (18, 1, 3, .iastore, 0, 0, 0, 99, 0), (19, 1, 0, .iconst 0, 0, 0, 0, 99, 0), (20, 1, 0, .istore_n 2, 0, 0, 0, 99, 0), (21, 1, 0, .iload_n 2, 0, 0, 0, 99, 0), (22, 2, 0, .bipush 48, 0, 0, 0, 99, 0), (24, 3, 2, .if_icmp .ge 38, 0, 0, 0, 99, 0), (27, 1, 0, .aload_n 0, 0, 0, 0, 99, 0), (28, 3, 3, .getfield 16, 8, 4, 1, 4, 169), (31, 2, 0, .bipush 48, 0, 0, 0, 99, 0), (33, 1, 0, .iload_n 1, 0, 0, 0, 99, 0), (34, 1, 1, .imul, 0, 0, 0, 99, 0), (35, 1, 0, .iload_n 2, 0, 0, 0, 99, 0), (36, 1, 1, .iadd, 0, 0, 0, 99, 0), (37, 1, 0, .iload_n 2, 0, 0, 0, 99, 0), (38, 1, 0, .aload_n 0, 0, 0, 0, 99, 0), (39, 3, 3, .getfield 185, 8, 11, 0, 4, 176), (42, 3, 2, .if_icmp .ge 12, 0, 0, 0, 99, 0), (45, 1, 0, .aload_n 0, 0, 0, 0, 99, 0), (46, 3, 3, .getfield 59, 8, 32, 1, 4, 197), (49, 1, 0, .iload_n 2, 0, 0, 0, 99, 0), (50, 1, 3, .iaload, 0, 0, 0, 99, 0), (51, 3, 2, .goto 4, 0, 0, 0, 99, 0), (54, 1, 0, .iconst 0, 0, 0, 0, 99, 0), (55, 1, 3, .iastore, 0, 0, 0, 99, 0), (56, 3, 0, .iinc 2 1, 0, 0, 0, 99, 0), (59, 3, 2, .goto (-38), 0, 0, 0, 99, 0), (62, 1, 0, .aload_n 0, 0, 0, 0, 99, 0), (63, 3, 3, .getfield 185, 8, 11, 0, 4, 176), (66, 1, 2, .ireturn, 0, 0, 0, 99, 0)]
def pgX8_on : List (Nat × Nat × z_En) := [(0, 1, 0, .iload_n 1, 0, 0, 0, 99, 0), (1, 3, 4, .invokestatic 97, 145, 1, 1, 5, 90), (4, 3, 2, .ifCond .ne 5, 0, 0, 0, 99, 0), (7, 1, 0, .iconst (-1), 0, 0, 0, 99, 0), (8, 1, 2, .ireturn, 0, 0, 0, 99, 0), (9, 1, 0, .aload_n 0, 0, 0, 0, 99, 0), (10, 3, 3, .getfield 13, 8, 3, 1, 4, 168), (13, 1, 0, .iload_n 1, 0, 0, 0, 99, 0), (14, 1, 3, .iaload, 0, 0, 0, 99, 0), (15, 3, 2, .ifCond .ge 9, 0, 0, 0, 99, 0), (18, 1, 0, .aload_n 0, 0, 0, 0, 99, 0), (19, 1, 0, .iconst 1, 0, 0, 0, 99, 0), (20, 3, 4, .invokevirtual 101, 140, 2, 0, 5, 93), (23, 1, 2, .ireturn, 0, 0, 0, 99, 0), (24, 1, 0, .aload_n 0, 0, 0, 0, 99, 0), (25, 3, 3, .getfield 13, 8, 3, 1, 4, 168), (28, 1, 0, .iload_n 1, 0, 0, 0, 99, 0), (29, 1, 3, .iaload, 0, 0, 0, 99, 0), (30, 1, 0, .aload_n 0, 0, 0, 0, 99, 0), (31, 3, 3, .getfield 185, 8, 11, 0, 4, 176), (34, 3, 2, .if_icmp .eq 9, 0, 0, 0, 99, 0), (37, 1, 0, .aload_n 0, 0, 0, 0, 99, 0), (38, 1, 0, .iconst 5, 0, 0, 0, 99, 0), (39, 3, 4, .invokevirtual 101, 140, 2, 0, 5, 93), (42, 1, 2, .ireturn, 0, 0, 0, 99, 0), (43, 1, 0, .iconst 1, 0, 0, 0, 99, 0), (44, 1, 0, .istore_n 2, 0, 0, 0, 99, 0), (45, 1, 0, .iconst 0, 0, 0, 0, 99, 0), (46, 1, 0, .istore_n 3, 0, 0, 0, 99, 0), (47, 1, 0, .iload_n 3, 0, 0, 0, 99, 0), (48, 1, 0, .aload_n 0, 0, 0, 0, 99, 0), (49, 3, 3, .getfield 185, 8, 11, 0, 4, 176), (52, 3, 2, .if_icmp .ge 45, 0, 0, 0, 99, 0), (55, 1, 0, .iload_n 2, 0, 0, 0, 99, 0), (56, 3, 2, .ifCond .eq 33, 0, 0, 0, 99, 0), (59, 1, 0, .aload_n 0, 0, 0, 0, 99, 0), (60, 1, 0, .iload_n 1, 0, 0, 0, 99, 0), (61, 1, 0, .iload_n 3, 0, 0, 0, 99, 0), (62, 3, 4, .invokevirtual 105, 146, 3, 0, 5, 101), (65, 2, 0, .bipush (-9), 0, 0, 0, 99, 0), (67, 3, 2, .if_icmp .eq 18, 0, 0, 0, 99, 0), (70, 1, 0, .aload_n 0, 0, 0, 0, 99, 0), (71, 1, 0, .iload_n 1, 0, 0, 0, 99, 0), (72, 1, 0, .iload_n 3, 0, 0, 0, 99, 0), (73, 3, 4, .invokevirtual 105, 146, 3, 0, 5, 101), (76, 1, 0, .iconst 0, 0, 0, 0, 99, 0), (77, 2, 0, .bipush 59, 0, 0, 0, 99, 0), (79, 3, 4, .invokestatic 90, 136, 3, 1, 5, 79), (82, 3, 2, .ifCond .eq 7, 0, 0, 0, 99, 0), (85, 1, 0, .iconst 1, 0, 0, 0, 99, 0), (86, 3, 2, .goto 4, 0, 0, 0, 99, 0), (89, 1, 0, .iconst 0, 0, 0, 0, 99, 0), (90, 1, 0, .istore_n 2, 0, 0, 0, 99, 0), (91, 3, 0, .iinc 3 1, 0, 0, 0, 99, 0), (94, 3, 2, .goto (-47), 0, 0, 0, 99, 0), (97, 1, 0, .iload_n 2, 0, 0, 0, 99, 0), (98, 3, 2, .ifCond .ne 9, 0, 0, 0, 99, 0), (101, 1, 0, .aload_n 0, 0, 0, 0, 99, 0), (102, 1, 0, .iconst 3, 0, 0, 0, 99, 0), (103, 3, 4, .invokevirtual 101, 140, 2, 0, 5, 93), (106, 1, 2, .ireturn, 0, 0, 0, 99, 0), (107, 1, 0, .iconst 0, 0, 0, 0, 99, 0), (108, 1, 0, .istore_n 3, 0, 0, 0, 99, 0), (109, 1, 0, .iload_n 3, 0, 0, 0, 99, 0), (110, 1, 0, .aload_n 0, 0, 0, 0, 99, 0), (111, 3, 3, .getfield 185, 8, 11, 0, 4, 176), (114, 3, 2, .if_icmp .ge 21, 0, 0, 0, 99, 0), (117, 1, 0, .aload_n 0, 0, 0, 0, 99, 0), (118, 3, 3, .getfield 59, 8, 32, 1, 4, 197), (121, 1, 0, .iload_n 3, 0, 0, 0, 99, 0), (122, 1, 0, .aload_n 0, 0, 0, 0, 99, 0), (123, 1, 0, .iload_n 1, 0, 0, 0, 99, 0), (124, 1, 0, .iload_n 3, 0, 0, 0, 99, 0), (125, 3, 4, .invokevirtual 105, 146, 3, 0, 5, 101), (128, 1, 3, .iastore, 0, 0, 0, 99, 0), (129, 3, 0, .iinc 3 1, 0, 0, 0, 99, 0), (132, 3, 2, .goto (-23), 0, 0, 0, 99, 0), (135, 1, 0, .iconst 1, 0, 0, 0, 99, 0), (136, 1, 2, .ireturn, 0, 0, 0, 99, 0)]
def pgX8_isRule : List (Nat × Nat × z_En) := [(0, 1, 0, .iload_n 0, 0, 0, 0, 99, 0), (1, 1, 0, .iconst 0, 0, 0, 0, 99, 0), (2, 1, 0, .iconst 5, 0, 0, 0, 99, 0), (3, 3, 4, .invokestatic 90, 136, 3, 1, 5, 79), (6, 1, 2, .ireturn, 0, 0, 3, 99, 0)]
def pgX8_rule : List (Nat × Nat × z_En) := [(0, 1, 0, .iload_n 2, 0, 0, 0, 99, 0), (1, 1, 0, .iconst 1, 0, 0, 0, 99, 0), (2, 3, 2, .if_icmp .eq 8, 0, 0, 0, 99, 0), (5, 1, 0, .iload_n 2, 0, 0, 0, 99, 0), (6, 1, 0, .iconst 2, 0, 0, 0, 99, 0), (7, 3, 2, .if_icmp .ne 7, 0, 0, 0, 99, 0), (10, 1, 0, .iconst 1, 0, 0, 0, 99, 0), (11, 3, 2, .goto 4, 0, 0, 0, 99, 0), (14, 1, 0, .iconst 0, 0, 0, 0, 99, 0), (15, 2, 0, .istore 4, 0, 0, 0, 99, 0), (17, 1, 0, .iload_n 1, 0, 0, 0, 99, 0), (18, 3, 4, .invokestatic 276, 209, 1, 1, 6, 118), (21, 3, 2, .ifCond .eq 24, 0, 0, 0, 99, 0), (24, 1, 0, .iload_n 2, 0, 0, 0, 99, 0), (25, 1, 0, .iconst 1, 0, 0, 0, 99, 0), (26, 1, 0, .iconst 5, 0, 0, 0, 99, 0), (27, 3, 4, .invokestatic 90, 136, 3, 1, 5, 79), (30, 3, 2, .ifCond .eq 15, 0, 0, 0, 99, 0), (33, 2, 0, .iload 4, 0, 0, 0, 99, 0), (35, 3, 2, .ifCond .eq 12, 0, 0, 0, 99, 0), (38, 1, 0, .iload_n 3, 0, 0, 0, 99, 0), (39, 3, 4, .invokestatic 97, 145, 1, 1, 5, 90), (42, 3, 2, .ifCond .ne 5, 0, 0, 0, 99, 0), (45, 1, 0, .iconst (-1), 0, 0, 0, 99, 0), (46, 1, 2, .ireturn, 0, 0, 0, 99, 0), (47, 2, 0, .iload 4, 0, 0, 0, 99, 0), (49, 3, 2, .ifCond .eq 18, 0, 0, 0, 99, 0), (52, 1, 0, .aload_n 0, 0, 0, 0, 99, 0), (53, 3, 3, .getfield 13, 8, 3, 1, 4, 168), (56, 1, 0, .iload_n 3, 0, 0, 0, 99, 0), (57, 1, 3, .iaload, 0, 0, 0, 99, 0), (58, 3, 2, .ifCond .ge 9, 0, 0, 0, 99, 0), (61, 1, 0, .aload_n 0, 0, 0, 0, 99, 0), (62, 1, 0, .iconst 1, 0, 0, 0, 99, 0), (63, 3, 4, .invokevirtual 101, 140, 2, 0, 5, 93), (66, 1, 2, .ireturn, 0, 0, 0, 99, 0), (67, 2, 0, .iload 4, 0, 0, 0, 99, 0), (69, 3, 2, .ifCond .eq 22, 0, 0, 0, 99, 0), (72, 1, 0, .aload_n 0, 0, 0, 0, 99, 0), (73, 3, 3, .getfield 13, 8, 3, 1, 4, 168), (76, 1, 0, .iload_n 3, 0, 0, 0, 99, 0), (77, 1, 3, .iaload, 0, 0, 0, 99, 0), (78, 1, 0, .aload_n 0, 0, 0, 0, 99, 0), (79, 3, 3, .getfield 182, 8, 10, 0, 4, 175), (82, 3, 2, .if_icmp .eq 9, 0, 0, 0, 99, 0), (85, 1, 0, .aload_n 0, 0, 0, 0, 99, 0), (86, 1, 0, .iconst 5, 0, 0, 0, 99, 0), (87, 3, 4, .invokevirtual 101, 140, 2, 0, 5, 93), (90, 1, 2, .ireturn, 0, 0, 0, 99, 0), (91, 1, 0, .iconst 0, 0, 0, 0, 99, 0), (92, 2, 0, .istore 5, 0, 0, 0, 99, 0), (94, 1, 0, .iconst 0, 0, 0, 0, 99, 0), (95, 2, 0, .istore 6, 0, 0, 0, 99, 0), (97, 2, 0, .iload 6, 0, 0, 0, 99, 0), (99, 1, 0, .aload_n 0, 0, 0, 0, 99, 0), (100, 3, 3, .getfield 182, 8, 10, 0, 4, 175), (103, 3, 2, .if_icmp .ge 57, 0, 0, 0, 99, 0), (106, 2, 0, .iload 4, 0, 0, 0, 99, 0), (108, 3, 2, .ifCond .eq 52, 0, 0, 0, 99, 0), (111, 1, 0, .aload_n 0, 0, 0, 0, 99, 0), (112, 1, 0, .iload_n 3, 0, 0, 0, 99, 0), (113, 2, 0, .iload 6, 0, 0, 0, 99, 0), (115, 3, 4, .invokevirtual 105, 146, 3, 0, 5, 101), (118, 2, 0, .istore 7, 0, 0, 0, 99, 0), (120, 1, 0, .aload_n 0, 0, 0, 0, 99, 0), (121, 2, 0, .iload 7, 0, 0, 0, 99, 0), (123, 3, 4, .invokevirtual 200, 171, 2, 0, 5, 207), (126, 3, 2, .ifCond .eq 13, 0, 0, 0, 99, 0), (129, 2, 0, .iload 5, 0, 0, 0, 99, 0), (131, 2, 0, .iload 7, 0, 0, 0, 99, 0), (133, 3, 4, .invokestatic 143, 137, 2, 1, 5, 176), (136, 3, 2, .ifCond .eq 9, 0, 0, 0, 99, 0), (139, 1, 0, .aload_n 0, 0, 0, 0, 99, 0), (140, 1, 0, .iconst 3, 0, 0, 0, 99, 0), (141, 3, 4, .invokevirtual 101, 140, 2, 0, 5, 93), (144, 1, 2, .ireturn, 0, 0, 0, 99, 0), (145, 2, 0, .iload 5, 0, 0, 0, 99, 0), (147, 1, 0, .iconst 1, 0, 0, 0, 99, 0), (148, 2, 0, .iload 7, 0, 0, 0, 99, 0), (150, 1, 1, .ishl, 0, 0, 0, 99, 0), (151, 1, 1, .ior, 0, 0, 0, 99, 0), (152, 2, 0, .istore 5, 0, 0, 0, 99, 0), (154, 3, 0, .iinc 6 1, 0, 0, 0, 99, 0), (157, 3, 2, .goto (-60), 0, 0, 0, 99, 0), (160, 1, 0, .iconst 0, 0, 0, 0, 99, 0), (161, 2, 0, .istore 6, 0, 0, 0, 99, 0), (163, 2, 0, .iload 6, 0, 0, 0, 99, 0), (165, 1, 0, .aload_n 0, 0, 0, 0, 99, 0), (166, 3, 3, .getfield 182, 8, 10, 0, 4, 175), (169, 3, 2, .if_icmp .ge 37, 0, 0, 0, 99, 0), (172, 1, 0, .aload_n 0, 0, 0, 0, 99, 0), (173, 3, 3, .getfield 65, 8, 34, 1, 4, 199), (176, 2, 0, .bipush 8, 0, 0, 0, 99, 0), (178, 1, 0, .iload_n 1, 0, 0, 0, 99, 0), (179, 1, 1, .imul, 0, 0, 0, 99, 0), (180, 2, 0, .iload 6, 0, 0, 0, 99, 0), (182, 1, 1, .iadd, 0, 0, 0, 99, 0), (183, 2, 0, .iload 4, 0, 0, 0, 99, 0), (185, 3, 2, .ifCond .eq 13, 0, 0, 0, 99, 0), (188, 1, 0, .aload_n 0, 0, 0, 0, 99, 0), (189, 1, 0, .iload_n 3, 0, 0, 0, 99, 0), (190, 2, 0, .iload 6, 0, 0, 0, 99, 0), (192, 3, 4, .invokevirtual 105, 146, 3, 0, 5, 101), (195, 3, 2, .goto 4, 0, 0, 0, 99, 0), (198, 1, 0, .iconst 0, 0, 0, 0, 99, 0), (199, 1, 3, .iastore, 0, 0, 0, 99, 0), (200, 3, 0, .iinc 6 1, 0, 0, 0, 99, 0), (203, 3, 2, .goto (-40), 0, 0, 0, 99, 0), (206, 1, 0, .aload_n 0, 0, 0, 0, 99, 0), (207, 3, 3, .getfield 62, 8, 33, 1, 4, 198), (210, 1, 0, .iload_n 1, 0, 0, 0, 99, 0), (211, 1, 0, .iload_n 2, 0, 0, 0, 99, 0), (212, 1, 3, .iastore, 0, 0, 0, 99, 0), (213, 1, 0, .iconst 1, 0, 0, 0, 99, 0), (214, 1, 2, .ireturn, 0, 0, 0, 99, 0)]
def pgX8_markOf : List (Nat × Nat × z_En) := [(0, 1, 0, .iload_n 2, 0, 0, 0, 99, 0), (1, 1, 0, .iconst 2, 0, 0, 0, 99, 0), (2, 3, 2, .if_icmp .le 7, 0, 0, 0, 99, 0), (5, 1, 0, .iload_n 2, 0, 0, 0, 99, 0), (6, 3, 2, .goto 48, 0, 0, 0, 99, 0), (9, 1, 0, .aload_n 0, 0, 0, 0, 99, 0), (10, 3, 3, .getfield 182, 8, 10, 0, 4, 175), (13, 3, 2, .ifCond .ne 8, 0, 0, 0, 99, 0), (16, 2, 0, .bipush (-9), 0, 0, 0, 99, 0), (18, 3, 2, .goto 36, 0, 0, 0, 99, 0), (21, 1, 0, .iload_n 2, 0, 0, 0, 99, 0), (22, 1, 0, .iconst 1, 0, 0, 0, 99, 0), (23, 3, 2, .if_icmp .ne 15, 0, 0, 0, 99, 0), (26, 1, 0, .aload_n 0, 0, 0, 0, 99, 0), (27, 3, 3, .getfield 65, 8, 34, 1, 4, 199), (30, 2, 0, .bipush 8, 0, 0, 0, 99, 0), (32, 1, 0, .iload_n 1, 0, 0, 0, 99, 0), (33, 1, 1, .imul, 0, 0, 0, 99, 0), (34, 1, 3, .iaload, 0, 0, 0, 99, 0), (35, 3, 2, .goto 19, 0, 0, 0, 99, 0), (38, 1, 0, .aload_n 0, 0, 0, 0, 99, 0), (39, 3, 3, .getfield 65, 8, 34, 1, 4, 199), (42, 2, 0, .bipush 8, 0, 0, 0, 99, 0), (44, 1, 0, .iload_n 1, 0, 0, 0, 99, 0), (45, 1, 1, .imul, 0, 0, 0, 99, 0), (46, 1, 0, .aload_n 0, 0, 0, 0, 99, 0), (47, 3, 3, .getfield 182, 8, 10, 0, 4, 175), (50, 1, 1, .iadd, 0, 0, 0, 99, 0), (51, 1, 0, .iconst 1, 0, 0, 0, 99, 0), (52, 1, 1, .isub, 0, 0, 0, 99, 0), (53, 1, 3, .iaload, 0, 0, 0, 99, 0), (54, 1, 2, .ireturn, 0, 0, 0, 99, 0)]
def pgX8_mark : List (Nat × Nat × z_En) := [(0, 1, 0, .iload_n 1, 0, 0, 0, 99, 0), (1, 3, 4, .invokestatic 276, 209, 1, 1, 6, 118), (4, 3, 2, .ifCond .eq 12, 0, 0, 0, 99, 0), (7, 1, 0, .iload_n 2, 0, 0, 0, 99, 0), (8, 1, 0, .iconst 1, 0, 0, 0, 99, 0), (9, 1, 0, .iconst 5, 0, 0, 0, 99, 0), (10, 3, 4, .invokestatic 90, 136, 3, 1, 5, 79), (13, 3, 2, .ifCond .ne 5, 0, 0, 0, 99, 0), (16, 1, 0, .iconst (-1), 0, 0, 0, 99, 0), (17, 1, 2, .ireturn, 0, 0, 0, 99, 0), (18, 1, 0, .aload_n 0, 0, 0, 0, 99, 0), (19, 3, 3, .getfield 62, 8, 33, 1, 4, 198), (22, 1, 0, .iload_n 1, 0, 0, 0, 99, 0), (23, 1, 3, .iaload, 0, 0, 0, 99, 0), (24, 3, 2, .ifCond .ne 9, 0, 0, 0, 99, 0), (27, 1, 0, .aload_n 0, 0, 0, 0, 99, 0), (28, 1, 0, .iconst 1, 0, 0, 0, 99, 0), (29, 3, 4, .invokevirtual 101, 140, 2, 0, 5, 93), (32, 1, 2, .ireturn, 0, 0, 0, 99, 0), (33, 1, 0, .aload_n 0, 0, 0, 0, 99, 0), (34, 3, 3, .getfield 62, 8, 33, 1, 4, 198), (37, 1, 0, .iload_n 1, 0, 0, 0, 99, 0), (38, 1, 3, .iaload, 0, 0, 0, 99, 0), (39, 1, 0, .iload_n 2, 0, 0, 0, 99, 0), (40, 3, 2, .if_icmp .eq 18, 0, 0, 0, 99, 0), (43, 1, 0, .iload_n 2, 0, 0, 0, 99, 0), (44, 1, 0, .iconst 1, 0, 0, 0, 99, 0), (45, 3, 2, .if_icmp .ne 17, 0, 0, 0, 99, 0), (48, 1, 0, .aload_n 0, 0, 0, 0, 99, 0), (49, 3, 3, .getfield 62, 8, 33, 1, 4, 198), (52, 1, 0, .iload_n 1, 0, 0, 0, 99, 0), (53, 1, 3, .iaload, 0, 0, 0, 99, 0), (54, 1, 0, .iconst 2, 0, 0, 0, 99, 0), (55, 3, 2, .if_icmp .ne 7, 0, 0, 0, 99, 0), (58, 1, 0, .iconst 1, 0, 0, 0, 99, 0), (59, 3, 2, .goto 4, 0, 0, 0, 99, 0), (62, 1, 0, .iconst 0, 0, 0, 0, 99, 0), (63, 1, 0, .istore_n 3, 0, 0, 0, 99, 0), (64, 1, 0, .iload_n 3, 0, 0, 0, 99, 0), (65, 3, 2, .ifCond .eq 12, 0, 0, 0, 99, 0), (68, 1, 0, .aload_n 0, 0, 0, 0, 99, 0), (69, 1, 0, .iload_n 1, 0, 0, 0, 99, 0), (70, 1, 0, .iload_n 2, 0, 0, 0, 99, 0), (71, 3, 4, .invokevirtual 279, 211, 3, 0, 6, 125), (74, 3, 2, .goto 8, 0, 0, 0, 99, 0), (77, 1, 0, .aload_n 0, 0, 0, 0, 99, 0), (78, 1, 0, .iconst 3, 0, 0, 0, 99, 0), (79, 3, 4, .invokevirtual 101, 140, 2, 0, 5, 93), (82, 1, 2, .ireturn, 0, 0, 0, 99, 0)]
def pgX8_hasAll : List (Nat × Nat × z_En) := [(0, 1, 0, .iconst 1, 0, 0, 0, 99, 0), (1, 1, 0, .istore_n 3, 0, 0, 0, 99, 0), (2, 1, 0, .iconst 0, 0, 0, 0, 99, 0), (3, 2, 0, .istore 4, 0, 0, 0, 99, 0), (5, 2, 0, .iload 4, 0, 0, 0, 99, 0), (7, 1, 0, .aload_n 0, 0, 0, 0, 99, 0), (8, 3, 3, .getfield 185, 8, 11, 0, 4, 176), (11, 3, 2, .if_icmp .ge 48, 0, 0, 0, 99, 0), (14, 1, 0, .iload_n 3, 0, 0, 0, 99, 0), (15, 3, 2, .ifCond .eq 36, 0, 0, 0, 99, 0), (18, 1, 0, .aload_n 0, 0, 0, 0, 99, 0), (19, 2, 0, .iload 4, 0, 0, 0, 99, 0), (21, 3, 4, .invokevirtual 197, 173, 2, 0, 5, 215), (24, 1, 0, .iload_n 1, 0, 0, 0, 99, 0), (25, 3, 2, .if_icmp .ne 22, 0, 0, 0, 99, 0), (28, 1, 0, .aload_n 0, 0, 0, 0, 99, 0), (29, 2, 0, .iload 4, 0, 0, 0, 99, 0), (31, 3, 4, .invokevirtual 221, 191, 2, 0, 6, 27), (34, 3, 2, .ifCond .eq 17, 0, 0, 0, 99, 0), (37, 1, 0, .aload_n 0, 0, 0, 0, 99, 0), (38, 2, 0, .iload 4, 0, 0, 0, 99, 0), (40, 3, 4, .invokevirtual 224, 192, 2, 0, 6, 31), (43, 1, 0, .iload_n 2, 0, 0, 0, 99, 0), (44, 3, 2, .if_icmp .gt 7, 0, 0, 0, 99, 0), (47, 1, 0, .iconst 1, 0, 0, 0, 99, 0), (48, 3, 2, .goto 4, 0, 0, 0, 99, 0), (51, 1, 0, .iconst 0, 0, 0, 0, 99, 0), (52, 1, 0, .istore_n 3, 0, 0, 0, 99, 0), (53, 3, 0, .iinc 4 1, 0, 0, 0, 99, 0), (56, 3, 2, .goto (-51), 0, 0, 0, 99, 0), (59, 1, 0, .iload_n 3, 0, 0, 0, 99, 0), (60, 1, 2, .ireturn, 0, 0, 3, 99, 0)]
def pgX8_takenMany : List (Nat × Nat × z_En) := [(0, 1, 0, .iconst 0, 0, 0, 0, 99, 0), (1, 2, 0, .istore 4, 0, 0, 0, 99, 0), (3, 1, 0, .iconst 0, 0, 0, 0, 99, 0), (4, 2, 0, .istore 5, 0, 0, 0, 99, 0), (6, 2, 0, .iload 5, 0, 0, 0, 99, 0), (8, 1, 0, .aload_n 0, 0, 0, 0, 99, 0), (9, 3, 3, .getfield 185, 8, 11, 0, 4, 176), (12, 3, 2, .if_icmp .ge 103, 0, 0, 0, 99, 0), (15, 1, 0, .iload_n 3, 0, 0, 0, 99, 0), (16, 3, 2, .ifCond .eq 55, 0, 0, 0, 99, 0), (19, 1, 0, .aload_n 0, 0, 0, 0, 99, 0), (20, 2, 0, .iload 5, 0, 0, 0, 99, 0), (22, 3, 4, .invokevirtual 221, 191, 2, 0, 6, 27), (25, 3, 2, .ifCond .eq 46, 0, 0, 0, 99, 0), (28, 1, 0, .aload_n 0, 0, 0, 0, 99, 0), (29, 3, 3, .getfield 59, 8, 32, 1, 4, 197), (32, 2, 0, .iload 5, 0, 0, 0, 99, 0), (34, 1, 3, .iaload, 0, 0, 0, 99, 0), (35, 1, 0, .iload_n 2, 0, 0, 0, 99, 0), (36, 3, 2, .if_icmp .gt 35, 0, 0, 0, 99, 0), (39, 1, 0, .iload_n 2, 0, 0, 0, 99, 0), (40, 1, 0, .aload_n 0, 0, 0, 0, 99, 0), (41, 1, 0, .aload_n 0, 0, 0, 0, 99, 0), (42, 2, 0, .iload 5, 0, 0, 0, 99, 0), (44, 3, 4, .invokevirtual 197, 173, 2, 0, 5, 215), (47, 3, 4, .invokevirtual 236, 179, 2, 0, 6, 47), (50, 3, 2, .if_icmp .ge 21, 0, 0, 0, 99, 0), (53, 1, 0, .aload_n 0, 0, 0, 0, 99, 0), (54, 1, 0, .aload_n 0, 0, 0, 0, 99, 0), (55, 2, 0, .iload 5, 0, 0, 0, 99, 0), (57, 3, 4, .invokevirtual 197, 173, 2, 0, 5, 215), (60, 1, 0, .iload_n 2, 0, 0, 0, 99, 0), (61, 3, 4, .invokevirtual 282, 213, 3, 0, 6, 149), (64, 3, 2, .ifCond .ne 7, 0, 0, 0, 99, 0), (67, 1, 0, .iconst 1, 0, 0, 0, 99, 0), (68, 3, 2, .goto 4, 0, 0, 0, 99, 0), (71, 1, 0, .iconst 0, 0, 0, 0, 99, 0), (72, 2, 0, .istore 6, 0, 0, 0, 99, 0), (74, 2, 0, .iload 4, 0, 0, 0, 99, 0), (76, 1, 0, .aload_n 0, 0, 0, 0, 99, 0), (77, 2, 0, .iload 5, 0, 0, 0, 99, 0), (79, 3, 4, .invokevirtual 206, 174, 2, 0, 5, 231), (82, 1, 0, .iload_n 1, 0, 0, 0, 99, 0), (83, 3, 2, .if_icmp .ne 22, 0, 0, 0, 99, 0), (86, 1, 0, .aload_n 0, 0, 0, 0, 99, 0), (87, 2, 0, .iload 5, 0, 0, 0, 99, 0), (89, 1, 0, .iload_n 2, 0, 0, 0, 99, 0), (90, 3, 4, .invokevirtual 227, 193, 3, 0, 6, 23), (93, 3, 2, .ifCond .ne 8, 0, 0, 0, 99, 0), (96, 2, 0, .iload 6, 0, 0, 0, 99, 0), (98, 3, 2, .ifCond .eq 7, 0, 0, 0, 99, 0), (101, 1, 0, .iconst 1, 0, 0, 0, 99, 0), (102, 3, 2, .goto 4, 0, 0, 0, 99, 0), (105, 1, 0, .iconst 0, 0, 0, 0, 99, 0), (106, 1, 1, .iadd, 0, 0, 0, 99, 0), (107, 2, 0, .istore 4, 0, 0, 0, 99, 0), (109, 3, 0, .iinc 5 1, 0, 0, 0, 99, 0), (112, 3, 2, .goto (-106), 0, 0, 0, 99, 0), (115, 2, 0, .iload 4, 0, 0, 0, 99, 0), (117, 1, 2, .ireturn, 0, 0, 0, 99, 0)]
def pgX8_may : List (Nat × Nat × z_En) := [(0, 1, 0, .aload_n 0, 0, 0, 0, 99, 0), (1, 1, 0, .iload_n 1, 0, 0, 0, 99, 0), (2, 3, 4, .invokevirtual 197, 173, 2, 0, 5, 215), (5, 2, 0, .istore 4, 0, 0, 0, 99, 0), (7, 1, 0, .aload_n 0, 0, 0, 0, 99, 0), (8, 1, 0, .iload_n 1, 0, 0, 0, 99, 0), (9, 3, 4, .invokevirtual 206, 174, 2, 0, 5, 231), (12, 2, 0, .istore 5, 0, 0, 0, 99, 0), (14, 1, 0, .iload_n 2, 0, 0, 0, 99, 0), (15, 1, 0, .aload_n 0, 0, 0, 0, 99, 0), (16, 1, 0, .iload_n 1, 0, 0, 0, 99, 0), (17, 3, 4, .invokevirtual 218, 175, 2, 0, 6, 35), (20, 1, 1, .iadd, 0, 0, 0, 99, 0), (21, 2, 0, .istore 6, 0, 0, 0, 99, 0), (23, 1, 0, .iload_n 2, 0, 0, 0, 99, 0), (24, 1, 0, .aload_n 0, 0, 0, 0, 99, 0), (25, 2, 0, .iload 4, 0, 0, 0, 99, 0), (27, 3, 4, .invokevirtual 233, 178, 2, 0, 6, 43), (30, 3, 2, .if_icmp .lt 52, 0, 0, 0, 99, 0), (33, 2, 0, .iload 6, 0, 0, 0, 99, 0), (35, 1, 0, .aload_n 0, 0, 0, 0, 99, 0), (36, 2, 0, .iload 4, 0, 0, 0, 99, 0), (38, 3, 4, .invokevirtual 236, 179, 2, 0, 6, 47), (41, 3, 2, .if_icmp .gt 41, 0, 0, 0, 99, 0), (44, 2, 0, .iload 6, 0, 0, 0, 99, 0), (46, 1, 0, .aload_n 0, 0, 0, 0, 99, 0), (47, 3, 3, .getfield 83, 8, 8, 0, 4, 173), (50, 3, 2, .if_icmp .gt 32, 0, 0, 0, 99, 0), (53, 1, 0, .iload_n 2, 0, 0, 0, 99, 0), (54, 1, 0, .aload_n 0, 0, 0, 0, 99, 0), (55, 2, 0, .iload 5, 0, 0, 0, 99, 0), (57, 3, 4, .invokevirtual 239, 177, 2, 0, 6, 51), (60, 3, 2, .if_icmp .lt 22, 0, 0, 0, 99, 0), (63, 1, 0, .aload_n 0, 0, 0, 0, 99, 0), (64, 2, 0, .iload 5, 0, 0, 0, 99, 0), (66, 1, 0, .iload_n 2, 0, 0, 0, 99, 0), (67, 1, 0, .aload_n 0, 0, 0, 0, 99, 0), (68, 1, 0, .iload_n 1, 0, 0, 0, 99, 0), (69, 3, 4, .invokevirtual 218, 175, 2, 0, 6, 35), (72, 3, 4, .invokevirtual 242, 182, 4, 0, 6, 55), (75, 3, 2, .ifCond .ne 7, 0, 0, 0, 99, 0), (78, 1, 0, .iconst 1, 0, 0, 0, 99, 0), (79, 3, 2, .goto 4, 0, 0, 0, 99, 0), (82, 1, 0, .iconst 0, 0, 0, 0, 99, 0), (83, 2, 0, .istore 7, 0, 0, 0, 99, 0), (85, 2, 0, .iload 7, 0, 0, 0, 99, 0), (87, 3, 2, .ifCond .eq 62, 0, 0, 0, 99, 0), (90, 1, 0, .aload_n 0, 0, 0, 0, 99, 0), (91, 1, 0, .iload_n 1, 0, 0, 0, 99, 0), (92, 3, 4, .invokevirtual 221, 191, 2, 0, 6, 27), (95, 3, 2, .ifCond .ne 54, 0, 0, 0, 99, 0), (98, 1, 0, .aload_n 0, 0, 0, 0, 99, 0), (99, 2, 0, .iload 4, 0, 0, 0, 99, 0), (101, 1, 0, .iload_n 2, 0, 0, 0, 99, 0), (102, 2, 0, .bipush (-9), 0, 0, 0, 99, 0), (104, 3, 4, .invokevirtual 251, 196, 4, 0, 6, 67), (107, 3, 2, .ifCond .ne 42, 0, 0, 0, 99, 0), (110, 1, 0, .aload_n 0, 0, 0, 0, 99, 0), (111, 2, 0, .iload 5, 0, 0, 0, 99, 0), (113, 1, 0, .iload_n 2, 0, 0, 0, 99, 0), (114, 1, 0, .iload_n 3, 0, 0, 0, 99, 0), (115, 3, 4, .invokevirtual 285, 214, 4, 0, 6, 145), (118, 1, 0, .aload_n 0, 0, 0, 0, 99, 0), (119, 2, 0, .iload 5, 0, 0, 0, 99, 0), (121, 3, 4, .invokevirtual 248, 176, 2, 0, 6, 63), (124, 3, 2, .if_icmp .ge 25, 0, 0, 0, 99, 0), (127, 1, 0, .aload_n 0, 0, 0, 0, 99, 0), (128, 1, 0, .iload_n 1, 0, 0, 0, 99, 0), (129, 1, 0, .iload_n 2, 0, 0, 0, 99, 0), (130, 3, 4, .invokevirtual 254, 197, 3, 0, 6, 71), (133, 3, 2, .ifCond .eq 16, 0, 0, 0, 99, 0), (136, 1, 0, .aload_n 0, 0, 0, 0, 99, 0), (137, 1, 0, .iload_n 1, 0, 0, 0, 99, 0), (138, 1, 0, .iload_n 2, 0, 0, 0, 99, 0), (139, 3, 4, .invokevirtual 257, 198, 3, 0, 6, 79), (142, 3, 2, .ifCond .ne 7, 0, 0, 0, 99, 0), (145, 1, 0, .iconst 1, 0, 0, 0, 99, 0), (146, 3, 2, .goto 4, 0, 0, 0, 99, 0), (149, 1, 0, .iconst 0, 0, 0, 0, 99, 0), (150, 1, 2, .ireturn, 0, 0, 3, 99, 0)]
def pgX8_firstOf : List (Nat × Nat × z_En) := [(0, 1, 0, .iconst 0, 0, 0, 0, 99, 0), (1, 2, 0, .istore 4, 0, 0, 0, 99, 0), (3, 2, 0, .iload 4, 0, 0, 0, 99, 0), (5, 1, 0, .aload_n 0, 0, 0, 0, 99, 0), (6, 3, 3, .getfield 185, 8, 11, 0, 4, 176), (9, 3, 2, .if_icmp .ge 33, 0, 0, 0, 99, 0), (12, 1, 0, .aload_n 0, 0, 0, 0, 99, 0), (13, 2, 0, .iload 4, 0, 0, 0, 99, 0), (15, 3, 4, .invokevirtual 197, 173, 2, 0, 5, 215), (18, 1, 0, .iload_n 1, 0, 0, 0, 99, 0), (19, 3, 2, .if_icmp .ne 17, 0, 0, 0, 99, 0), (22, 1, 0, .aload_n 0, 0, 0, 0, 99, 0), (23, 2, 0, .iload 4, 0, 0, 0, 99, 0), (25, 1, 0, .iload_n 2, 0, 0, 0, 99, 0), (26, 1, 0, .iload_n 3, 0, 0, 0, 99, 0), (27, 3, 4, .invokevirtual 289, 215, 4, 0, 6, 141), (30, 3, 2, .ifCond .eq 6, 0, 0, 0, 99, 0), (33, 2, 0, .iload 4, 0, 0, 0, 99, 0), (35, 1, 2, .ireturn, 0, 0, 0, 99, 0), (36, 3, 0, .iinc 4 1, 0, 0, 0, 99, 0), (39, 3, 2, .goto (-36), 0, 0, 0, 99, 0), (42, 2, 0, .bipush (-9), 0, 0, 0, 99, 0), (44, 1, 2, .ireturn, 0, 0, 0, 99, 0)]
def pgX8_waitsSince : List (Nat × Nat × z_En) := [(0, 1, 0, .aload_n 0, 0, 0, 0, 99, 0), (1, 1, 0, .iload_n 1, 0, 0, 0, 99, 0), (2, 3, 4, .invokevirtual 233, 178, 2, 0, 6, 43), (5, 1, 0, .istore_n 2, 0, 0, 0, 99, 0), (6, 1, 0, .iconst 0, 0, 0, 0, 99, 0), (7, 1, 0, .istore_n 3, 0, 0, 0, 99, 0), (8, 1, 0, .iload_n 3, 0, 0, 0, 99, 0), (9, 1, 0, .aload_n 0, 0, 0, 0, 99, 0), (10, 3, 3, .getfield 185, 8, 11, 0, 4, 176), (13, 3, 2, .if_icmp .ge 40, 0, 0, 0, 99, 0), (16, 1, 0, .aload_n 0, 0, 0, 0, 99, 0), (17, 1, 0, .iload_n 3, 0, 0, 0, 99, 0), (18, 3, 4, .invokevirtual 197, 173, 2, 0, 5, 215), (21, 1, 0, .iload_n 1, 0, 0, 0, 99, 0), (22, 3, 2, .if_icmp .ne 23, 0, 0, 0, 99, 0), (25, 1, 0, .aload_n 0, 0, 0, 0, 99, 0), (26, 1, 0, .iload_n 3, 0, 0, 0, 99, 0), (27, 3, 4, .invokevirtual 221, 191, 2, 0, 6, 27), (30, 3, 2, .ifCond .eq 15, 0, 0, 0, 99, 0), (33, 1, 0, .iload_n 2, 0, 0, 0, 99, 0), (34, 1, 0, .aload_n 0, 0, 0, 0, 99, 0), (35, 1, 0, .iload_n 3, 0, 0, 0, 99, 0), (36, 3, 4, .invokevirtual 224, 192, 2, 0, 6, 31), (39, 3, 4, .invokestatic 267, 139, 2, 1, 6, 95), (42, 3, 2, .goto 4, 0, 0, 0, 99, 0), (45, 1, 0, .iload_n 2, 0, 0, 0, 99, 0), (46, 1, 0, .istore_n 2, 0, 0, 0, 99, 0), (47, 3, 0, .iinc 3 1, 0, 0, 0, 99, 0), (50, 3, 2, .goto (-42), 0, 0, 0, 99, 0), (53, 1, 0, .iload_n 2, 0, 0, 0, 99, 0), (54, 1, 2, .ireturn, 0, 0, 0, 99, 0)]
def pgX8_chosen : List (Nat × Nat × z_En) := [(0, 2, 0, .bipush (-9), 0, 0, 0, 99, 0), (2, 1, 0, .istore_n 3, 0, 0, 0, 99, 0), (3, 1, 0, .iload_n 1, 0, 0, 0, 99, 0), (4, 1, 0, .iconst 3, 0, 0, 0, 99, 0), (5, 3, 2, .if_icmp .le 97, 0, 0, 0, 99, 0), (8, 1, 0, .iconst 0, 0, 0, 0, 99, 0), (9, 2, 0, .istore 4, 0, 0, 0, 99, 0), (11, 2, 0, .iload 4, 0, 0, 0, 99, 0), (13, 1, 0, .aload_n 0, 0, 0, 0, 99, 0), (14, 3, 3, .getfield 185, 8, 11, 0, 4, 176), (17, 3, 2, .if_icmp .ge 83, 0, 0, 0, 99, 0), (20, 1, 0, .aload_n 0, 0, 0, 0, 99, 0), (21, 2, 0, .iload 4, 0, 0, 0, 99, 0), (23, 1, 0, .iload_n 2, 0, 0, 0, 99, 0), (24, 1, 0, .iconst 0, 0, 0, 0, 99, 0), (25, 3, 4, .invokevirtual 289, 215, 4, 0, 6, 141), (28, 3, 2, .ifCond .eq 66, 0, 0, 0, 99, 0), (31, 1, 0, .iload_n 3, 0, 0, 0, 99, 0), (32, 2, 0, .bipush (-9), 0, 0, 0, 99, 0), (34, 3, 2, .if_icmp .eq 41, 0, 0, 0, 99, 0), (37, 1, 0, .iload_n 1, 0, 0, 0, 99, 0), (38, 1, 0, .iconst 4, 0, 0, 0, 99, 0), (39, 3, 2, .if_icmp .ne 22, 0, 0, 0, 99, 0), (42, 1, 0, .aload_n 0, 0, 0, 0, 99, 0), (43, 2, 0, .iload 4, 0, 0, 0, 99, 0), (45, 1, 0, .iload_n 2, 0, 0, 0, 99, 0), (46, 3, 4, .invokevirtual 270, 202, 3, 0, 6, 91), (49, 1, 0, .aload_n 0, 0, 0, 0, 99, 0), (50, 1, 0, .iload_n 3, 0, 0, 0, 99, 0), (51, 1, 0, .iload_n 2, 0, 0, 0, 99, 0), (52, 3, 4, .invokevirtual 270, 202, 3, 0, 6, 91), (55, 3, 2, .if_icmp .le 24, 0, 0, 0, 99, 0), (58, 3, 2, .goto 17, 0, 0, 0, 99, 0), (61, 1, 0, .aload_n 0, 0, 0, 0, 99, 0), (62, 2, 0, .iload 4, 0, 0, 0, 99, 0), (64, 3, 4, .invokevirtual 218, 175, 2, 0, 6, 35), (67, 1, 0, .aload_n 0, 0, 0, 0, 99, 0), (68, 1, 0, .iload_n 3, 0, 0, 0, 99, 0), (69, 3, 4, .invokevirtual 218, 175, 2, 0, 6, 35), (72, 3, 2, .if_icmp .ge 7, 0, 0, 0, 99, 0), (75, 1, 0, .iconst 1, 0, 0, 0, 99, 0), (76, 3, 2, .goto 4, 0, 0, 0, 99, 0), (79, 1, 0, .iconst 0, 0, 0, 0, 99, 0), (80, 2, 0, .istore 5, 0, 0, 0, 99, 0), (82, 2, 0, .iload 5, 0, 0, 0, 99, 0), (84, 3, 2, .ifCond .eq 8, 0, 0, 0, 99, 0), (87, 2, 0, .iload 4, 0, 0, 0, 99, 0), (89, 3, 2, .goto 4, 0, 0, 0, 99, 0), (92, 1, 0, .iload_n 3, 0, 0, 0, 99, 0), (93, 1, 0, .istore_n 3, 0, 0, 0, 99, 0), (94, 3, 0, .iinc 4 1, 0, 0, 0, 99, 0), (97, 3, 2, .goto (-86), 0, 0, 0, 99, 0), (100, 1, 0, .iload_n 3, 0, 0, 0, 99, 0), (101, 1, 2, .ireturn, 0, 0, 0, 99, 0), (102, 1, 0, .iconst 0, 0, 0, 0, 99, 0), (103, 2, 0, .istore 4, 0, 0, 0, 99, 0), (105, 2, 0, .iload 4, 0, 0, 0, 99, 0), (107, 1, 0, .aload_n 0, 0, 0, 0, 99, 0), (108, 3, 3, .getfield 182, 8, 10, 0, 4, 175), (111, 3, 2, .if_icmp .ge 111, 0, 0, 0, 99, 0), (114, 1, 0, .aload_n 0, 0, 0, 0, 99, 0), (115, 1, 0, .iload_n 1, 0, 0, 0, 99, 0), (116, 1, 0, .iconst 3, 0, 0, 0, 99, 0), (117, 3, 2, .if_icmp .ne 8, 0, 0, 0, 99, 0), (120, 2, 0, .iload 4, 0, 0, 0, 99, 0), (122, 3, 2, .goto 10, 0, 0, 0, 99, 0), (125, 1, 0, .aload_n 0, 0, 0, 0, 99, 0), (126, 3, 3, .getfield 68, 8, 35, 1, 4, 200), (129, 2, 0, .iload 4, 0, 0, 0, 99, 0), (131, 1, 3, .iaload, 0, 0, 0, 99, 0), (132, 1, 0, .iload_n 2, 0, 0, 0, 99, 0), (133, 1, 0, .iload_n 1, 0, 0, 0, 99, 0), (134, 1, 0, .iconst 2, 0, 0, 0, 99, 0), (135, 3, 2, .if_icmp .ne 7, 0, 0, 0, 99, 0), (138, 1, 0, .iconst 1, 0, 0, 0, 99, 0), (139, 3, 2, .goto 4, 0, 0, 0, 99, 0), (142, 1, 0, .iconst 0, 0, 0, 0, 99, 0), (143, 3, 4, .invokevirtual 293, 216, 4, 0, 6, 153), (146, 2, 0, .istore 5, 0, 0, 0, 99, 0), (148, 2, 0, .iload 5, 0, 0, 0, 99, 0), (150, 2, 0, .bipush (-9), 0, 0, 0, 99, 0), (152, 3, 2, .if_icmp .eq 36, 0, 0, 0, 99, 0), (155, 1, 0, .iload_n 3, 0, 0, 0, 99, 0), (156, 2, 0, .bipush (-9), 0, 0, 0, 99, 0), (158, 3, 2, .if_icmp .eq 30, 0, 0, 0, 99, 0), (161, 1, 0, .iload_n 1, 0, 0, 0, 99, 0), (162, 1, 0, .iconst 3, 0, 0, 0, 99, 0), (163, 3, 2, .if_icmp .ne 25, 0, 0, 0, 99, 0), (166, 1, 0, .aload_n 0, 0, 0, 0, 99, 0), (167, 2, 0, .iload 4, 0, 0, 0, 99, 0), (169, 3, 4, .invokevirtual 296, 217, 2, 0, 6, 157), (172, 1, 0, .aload_n 0, 0, 0, 0, 99, 0), (173, 1, 0, .aload_n 0, 0, 0, 0, 99, 0), (174, 1, 0, .iload_n 3, 0, 0, 0, 99, 0), (175, 3, 4, .invokevirtual 197, 173, 2, 0, 5, 215), (178, 3, 4, .invokevirtual 296, 217, 2, 0, 6, 157), (181, 3, 2, .if_icmp .ge 7, 0, 0, 0, 99, 0), (184, 1, 0, .iconst 1, 0, 0, 0, 99, 0), (185, 3, 2, .goto 4, 0, 0, 0, 99, 0), (188, 1, 0, .iconst 0, 0, 0, 0, 99, 0), (189, 2, 0, .istore 6, 0, 0, 0, 99, 0), (191, 2, 0, .iload 5, 0, 0, 0, 99, 0), (193, 2, 0, .bipush (-9), 0, 0, 0, 99, 0), (195, 3, 2, .if_icmp .eq 9, 0, 0, 0, 99, 0), (198, 1, 0, .iload_n 3, 0, 0, 0, 99, 0), (199, 2, 0, .bipush (-9), 0, 0, 0, 99, 0), (201, 3, 2, .if_icmp .eq 8, 0, 0, 0, 99, 0), (204, 2, 0, .iload 6, 0, 0, 0, 99, 0), (206, 3, 2, .ifCond .eq 8, 0, 0, 0, 99, 0), (209, 2, 0, .iload 5, 0, 0, 0, 99, 0), (211, 3, 2, .goto 4, 0, 0, 0, 99, 0), (214, 1, 0, .iload_n 3, 0, 0, 0, 99, 0), (215, 1, 0, .istore_n 3, 0, 0, 0, 99, 0), (216, 3, 0, .iinc 4 1, 0, 0, 0, 99, 0), (219, 3, 2, .goto (-114), 0, 0, 0, 99, 0), (222, 1, 0, .iload_n 3, 0, 0, 0, 99, 0), (223, 1, 2, .ireturn, 0, 0, 0, 99, 0)]
def pgX8_runs : List (Nat × Nat × z_En) := [(0, 1, 0, .iconst 0, 0, 0, 0, 99, 0), (1, 1, 0, .istore_n 2, 0, 0, 0, 99, 0), (2, 1, 0, .iload_n 2, 0, 0, 0, 99, 0), (3, 1, 0, .aload_n 0, 0, 0, 0, 99, 0), (4, 3, 3, .getfield 185, 8, 11, 0, 4, 176), (7, 3, 2, .if_icmp .ge 17, 0, 0, 0, 99, 0), (10, 1, 0, .aload_n 0, 0, 0, 0, 99, 0), (11, 3, 3, .getfield 59, 8, 32, 1, 4, 197), (14, 1, 0, .iload_n 2, 0, 0, 0, 99, 0), (15, 2, 0, .bipush (-9), 0, 0, 0, 99, 0), (17, 1, 3, .iastore, 0, 0, 0, 99, 0), (18, 3, 0, .iinc 2 1, 0, 0, 0, 99, 0), (21, 3, 2, .goto (-19), 0, 0, 0, 99, 0), (24, 1, 0, .iconst 0, 0, 0, 0, 99, 0), (25, 1, 0, .istore_n 2, 0, 0, 0, 99, 0), (26, 1, 0, .iload_n 2, 0, 0, 0, 99, 0), (27, 1, 0, .aload_n 0, 0, 0, 0, 99, 0), (28, 3, 3, .getfield 83, 8, 8, 0, 4, 173), (31, 3, 2, .if_icmp .ge 39, 0, 0, 0, 99, 0), (34, 1, 0, .aload_n 0, 0, 0, 0, 99, 0), (35, 1, 0, .iload_n 1, 0, 0, 0, 99, 0), (36, 1, 0, .iload_n 2, 0, 0, 0, 99, 0), (37, 3, 4, .invokevirtual 299, 218, 3, 0, 6, 137), (40, 1, 0, .istore_n 3, 0, 0, 0, 99, 0), (41, 1, 0, .iload_n 3, 0, 0, 0, 99, 0), (42, 2, 0, .bipush (-9), 0, 0, 0, 99, 0), (44, 3, 2, .if_icmp .eq 20, 0, 0, 0, 99, 0), (47, 1, 0, .aload_n 0, 0, 0, 0, 99, 0), (48, 3, 3, .getfield 59, 8, 32, 1, 4, 197), (51, 1, 0, .iload_n 3, 0, 0, 0, 99, 0), (52, 1, 0, .iload_n 2, 0, 0, 0, 99, 0), (53, 1, 3, .iastore, 0, 0, 0, 99, 0), (54, 1, 0, .aload_n 0, 0, 0, 0, 99, 0), (55, 1, 0, .iload_n 1, 0, 0, 0, 99, 0), (56, 1, 0, .iload_n 2, 0, 0, 0, 99, 0), (57, 3, 4, .invokevirtual 299, 218, 3, 0, 6, 137), (60, 1, 0, .istore_n 3, 0, 0, 0, 99, 0), (61, 3, 2, .goto (-20), 0, 0, 0, 99, 0), (64, 3, 0, .iinc 2 1, 0, 0, 0, 99, 0), (67, 3, 2, .goto (-41), 0, 0, 0, 99, 0), (70, 1, 2, .return_, 0, 0, 0, 99, 0)]
def pgX8_run : List (Nat × Nat × z_En) := [(0, 1, 0, .iload_n 1, 0, 0, 0, 99, 0), (1, 3, 4, .invokestatic 276, 209, 1, 1, 6, 118), (4, 3, 2, .ifCond .ne 5, 0, 0, 0, 99, 0), (7, 1, 0, .iconst (-1), 0, 0, 0, 99, 0), (8, 1, 2, .ireturn, 0, 0, 0, 99, 0), (9, 1, 0, .aload_n 0, 0, 0, 0, 99, 0), (10, 3, 3, .getfield 62, 8, 33, 1, 4, 198), (13, 1, 0, .iload_n 1, 0, 0, 0, 99, 0), (14, 1, 3, .iaload, 0, 0, 0, 99, 0), (15, 3, 2, .ifCond .ne 9, 0, 0, 0, 99, 0), (18, 1, 0, .aload_n 0, 0, 0, 0, 99, 0), (19, 1, 0, .iconst 1, 0, 0, 0, 99, 0), (20, 3, 4, .invokevirtual 101, 140, 2, 0, 5, 93), (23, 1, 2, .ireturn, 0, 0, 0, 99, 0), (24, 1, 0, .iconst 0, 0, 0, 0, 99, 0), (25, 1, 0, .istore_n 2, 0, 0, 0, 99, 0), (26, 1, 0, .iload_n 2, 0, 0, 0, 99, 0), (27, 1, 0, .aload_n 0, 0, 0, 0, 99, 0), (28, 3, 3, .getfield 182, 8, 10, 0, 4, 175), (31, 3, 2, .if_icmp .ge 26, 0, 0, 0, 99, 0), (34, 1, 0, .aload_n 0, 0, 0, 0, 99, 0), (35, 3, 3, .getfield 68, 8, 35, 1, 4, 200), (38, 1, 0, .iload_n 2, 0, 0, 0, 99, 0), (39, 1, 0, .aload_n 0, 0, 0, 0, 99, 0), (40, 3, 3, .getfield 65, 8, 34, 1, 4, 199), (43, 2, 0, .bipush 8, 0, 0, 0, 99, 0), (45, 1, 0, .iload_n 1, 0, 0, 0, 99, 0), (46, 1, 1, .imul, 0, 0, 0, 99, 0), (47, 1, 0, .iload_n 2, 0, 0, 0, 99, 0), (48, 1, 1, .iadd, 0, 0, 0, 99, 0), (49, 1, 3, .iaload, 0, 0, 0, 99, 0), (50, 1, 3, .iastore, 0, 0, 0, 99, 0), (51, 3, 0, .iinc 2 1, 0, 0, 0, 99, 0), (54, 3, 2, .goto (-28), 0, 0, 0, 99, 0), (57, 1, 0, .aload_n 0, 0, 0, 0, 99, 0), (58, 1, 0, .aload_n 0, 0, 0, 0, 99, 0), (59, 3, 3, .getfield 62, 8, 33, 1, 4, 198), (62, 1, 0, .iload_n 1, 0, 0, 0, 99, 0), (63, 1, 3, .iaload, 0, 0, 0, 99, 0), (64, 3, 4, .invokevirtual 302, 219, 2, 0, 6, 133), (67, 1, 0, .aload_n 0, 0, 0, 0, 99, 0), (68, 2, 0, .bipush (-9), 0, 0, 0, 99, 0), (70, 3, 4, .invokevirtual 273, 203, 2, 0, 6, 87), (73, 1, 2, .ireturn, 0, 0, 0, 99, 0)]
def pgX8_keep : List (Nat × Nat × z_En) := [(0, 1, 0, .iconst 0, 0, 0, 0, 99, 0), (1, 1, 0, .istore_n 2, 0, 0, 0, 99, 0), (2, 1, 0, .iload_n 2, 0, 0, 0, 99, 0), (3, 2, 0, .bipush 24, 0, 0, 0, 99, 0), (5, 3, 2, .if_icmp .ge 18, 0, 0, 0, 99, 0), (8, 1, 0, .aload_n 1, 0, 0, 0, 99, 0), (9, 1, 0, .iload_n 2, 0, 0, 0, 99, 0), (10, 1, 0, .aload_n 0, 0, 0, 0, 99, 0), (11, 3, 3, .getfield 59, 8, 32, 1, 4, 197), (14, 1, 0, .iload_n 2, 0, 0, 0, 99, 0), (15, 1, 3, .iaload, 0, 0, 0, 99, 0), (16, 1, 3, .iastore, 0, 0, 0, 99, 0), (17, 3, 0, .iinc 2 1, 0, 0, 0, 99, 0), (20, 3, 2, .goto (-18), 0, 0, 0, 99, 0), (23, 1, 2, .return_, 0, 0, 0, 99, 0)]
def pgX8_back : List (Nat × Nat × z_En) := [(0, 1, 0, .iconst 0, 0, 0, 0, 99, 0), (1, 1, 0, .istore_n 2, 0, 0, 0, 99, 0), (2, 1, 0, .iload_n 2, 0, 0, 0, 99, 0), (3, 2, 0, .bipush 24, 0, 0, 0, 99, 0), (5, 3, 2, .if_icmp .ge 18, 0, 0, 0, 99, 0), (8, 1, 0, .aload_n 0, 0, 0, 0, 99, 0), (9, 3, 3, .getfield 59, 8, 32, 1, 4, 197), (12, 1, 0, .iload_n 2, 0, 0, 0, 99, 0), (13, 1, 0, .aload_n 1, 0, 0, 0, 99, 0), (14, 1, 0, .iload_n 2, 0, 0, 0, 99, 0), (15, 1, 3, .iaload, 0, 0, 0, 99, 0), (16, 1, 3, .iastore, 0, 0, 0, 99, 0), (17, 3, 0, .iinc 2 1, 0, 0, 0, 99, 0), (20, 3, 2, .goto (-18), 0, 0, 0, 99, 0), (23, 1, 2, .return_, 0, 0, 0, 99, 0)]
def pgX8_layCard : List (Nat × Nat × z_En) := [(0, 1, 0, .iconst 1, 0, 0, 0, 99, 0), (1, 1, 0, .aload_n 0, 0, 0, 0, 99, 0), (2, 3, 3, .getfield 182, 8, 10, 0, 4, 175), (5, 1, 1, .ishl, 0, 0, 0, 99, 0), (6, 1, 0, .iconst 1, 0, 0, 0, 99, 0), (7, 1, 1, .isub, 0, 0, 0, 99, 0), (8, 1, 0, .istore_n 2, 0, 0, 0, 99, 0), (9, 1, 0, .iload_n 1, 0, 0, 0, 99, 0), (10, 1, 0, .istore_n 3, 0, 0, 0, 99, 0), (11, 1, 0, .iconst 1, 0, 0, 0, 99, 0), (12, 2, 0, .istore 4, 0, 0, 0, 99, 0), (14, 1, 0, .iconst 2, 0, 0, 0, 99, 0), (15, 2, 0, .istore 5, 0, 0, 0, 99, 0), (17, 2, 0, .iload 5, 0, 0, 0, 99, 0), (19, 1, 0, .aload_n 0, 0, 0, 0, 99, 0), (20, 3, 3, .getfield 182, 8, 10, 0, 4, 175), (23, 3, 2, .if_icmp .ge 16, 0, 0, 0, 99, 0), (26, 2, 0, .iload 4, 0, 0, 0, 99, 0), (28, 2, 0, .iload 5, 0, 0, 0, 99, 0), (30, 1, 1, .imul, 0, 0, 0, 99, 0), (31, 2, 0, .istore 4, 0, 0, 0, 99, 0), (33, 3, 0, .iinc 5 1, 0, 0, 0, 99, 0), (36, 3, 2, .goto (-19), 0, 0, 0, 99, 0), (39, 1, 0, .iconst 0, 0, 0, 0, 99, 0), (40, 2, 0, .istore 5, 0, 0, 0, 99, 0), (42, 2, 0, .iload 5, 0, 0, 0, 99, 0), (44, 1, 0, .aload_n 0, 0, 0, 0, 99, 0), (45, 3, 3, .getfield 182, 8, 10, 0, 4, 175), (48, 3, 2, .if_icmp .ge 109, 0, 0, 0, 99, 0), (51, 1, 0, .iload_n 3, 0, 0, 0, 99, 0), (52, 2, 0, .iload 4, 0, 0, 0, 99, 0), (54, 1, 1, .idiv, 0, 0, 0, 99, 0), (55, 2, 0, .istore 6, 0, 0, 0, 99, 0), (57, 1, 0, .iload_n 3, 0, 0, 0, 99, 0), (58, 2, 0, .iload 4, 0, 0, 0, 99, 0), (60, 1, 1, .irem, 0, 0, 0, 99, 0), (61, 1, 0, .istore_n 3, 0, 0, 0, 99, 0), (62, 2, 0, .iload 5, 0, 0, 0, 99, 0), (64, 1, 0, .iconst 2, 0, 0, 0, 99, 0), (65, 1, 1, .iadd, 0, 0, 0, 99, 0), (66, 1, 0, .aload_n 0, 0, 0, 0, 99, 0), (67, 3, 3, .getfield 182, 8, 10, 0, 4, 175), (70, 3, 2, .if_icmp .ge 18, 0, 0, 0, 99, 0), (73, 2, 0, .iload 4, 0, 0, 0, 99, 0), (75, 1, 0, .aload_n 0, 0, 0, 0, 99, 0), (76, 3, 3, .getfield 182, 8, 10, 0, 4, 175), (79, 1, 0, .iconst 1, 0, 0, 0, 99, 0), (80, 1, 1, .isub, 0, 0, 0, 99, 0), (81, 2, 0, .iload 5, 0, 0, 0, 99, 0), (83, 1, 1, .isub, 0, 0, 0, 99, 0), (84, 1, 1, .idiv, 0, 0, 0, 99, 0), (85, 3, 2, .goto 4, 0, 0, 0, 99, 0), (88, 1, 0, .iconst 1, 0, 0, 0, 99, 0), (89, 2, 0, .istore 4, 0, 0, 0, 99, 0), (91, 1, 0, .iconst 0, 0, 0, 0, 99, 0), (92, 2, 0, .istore 7, 0, 0, 0, 99, 0), (94, 1, 0, .iload_n 2, 0, 0, 0, 99, 0), (95, 2, 0, .iload 7, 0, 0, 0, 99, 0), (97, 3, 4, .invokestatic 143, 137, 2, 1, 5, 176), (100, 3, 2, .ifCond .eq 8, 0, 0, 0, 99, 0), (103, 2, 0, .iload 6, 0, 0, 0, 99, 0), (105, 3, 2, .ifCond .le 28, 0, 0, 0, 99, 0), (108, 2, 0, .iload 6, 0, 0, 0, 99, 0), (110, 1, 0, .iload_n 2, 0, 0, 0, 99, 0), (111, 2, 0, .iload 7, 0, 0, 0, 99, 0), (113, 3, 4, .invokestatic 143, 137, 2, 1, 5, 176), (116, 3, 2, .ifCond .eq 7, 0, 0, 0, 99, 0), (119, 1, 0, .iconst 1, 0, 0, 0, 99, 0), (120, 3, 2, .goto 4, 0, 0, 0, 99, 0), (123, 1, 0, .iconst 0, 0, 0, 0, 99, 0), (124, 1, 1, .isub, 0, 0, 0, 99, 0), (125, 2, 0, .istore 6, 0, 0, 0, 99, 0), (127, 3, 0, .iinc 7 1, 0, 0, 0, 99, 0), (130, 3, 2, .goto (-36), 0, 0, 0, 99, 0), (133, 1, 0, .iload_n 2, 0, 0, 0, 99, 0), (134, 1, 0, .iconst 1, 0, 0, 0, 99, 0), (135, 2, 0, .iload 7, 0, 0, 0, 99, 0), (137, 1, 1, .ishl, 0, 0, 0, 99, 0), (138, 1, 0, .iconst (-1), 0, 0, 0, 99, 0), (139, 1, 1, .ixor, 0, 0, 0, 99, 0), (140, 1, 1, .iand, 0, 0, 0, 99, 0), (141, 1, 0, .istore_n 2, 0, 0, 0, 99, 0), (142, 1, 0, .aload_n 0, 0, 0, 0, 99, 0), (143, 3, 3, .getfield 68, 8, 35, 1, 4, 200), (146, 2, 0, .iload 5, 0, 0, 0, 99, 0), (148, 2, 0, .iload 7, 0, 0, 0, 99, 0), (150, 1, 3, .iastore, 0, 0, 0, 99, 0), (151, 3, 0, .iinc 5 1, 0, 0, 0, 99, 0), (154, 3, 2, .goto (-112), 0, 0, 0, 99, 0), (157, 1, 2, .return_, 0, 0, 0, 99, 0)]
def pgX8_best : List (Nat × Nat × z_En) := [(0, 1, 0, .iload_n 1, 0, 0, 0, 99, 0), (1, 3, 4, .invokestatic 97, 145, 1, 1, 5, 90), (4, 3, 2, .ifCond .ne 5, 0, 0, 0, 99, 0), (7, 1, 0, .iconst (-1), 0, 0, 0, 99, 0), (8, 1, 2, .ireturn, 0, 0, 0, 99, 0), (9, 1, 0, .aload_n 0, 0, 0, 0, 99, 0), (10, 3, 3, .getfield 182, 8, 10, 0, 4, 175), (13, 2, 0, .bipush 6, 0, 0, 0, 99, 0), (15, 3, 2, .if_icmp .le 6, 0, 0, 0, 99, 0), (18, 2, 0, .bipush (-6), 0, 0, 0, 99, 0), (20, 1, 2, .ireturn, 0, 0, 0, 99, 0), (21, 1, 0, .aload_n 0, 0, 0, 0, 99, 0), (22, 1, 0, .aload_n 0, 0, 0, 0, 99, 0), (23, 3, 3, .getfield 71, 8, 36, 1, 4, 201), (26, 3, 4, .invokevirtual 306, 221, 2, 0, 6, 165), (29, 1, 0, .iconst 1, 0, 0, 0, 99, 0), (30, 1, 0, .istore_n 2, 0, 0, 0, 99, 0), (31, 1, 0, .iconst 2, 0, 0, 0, 99, 0), (32, 1, 0, .istore_n 3, 0, 0, 0, 99, 0), (33, 1, 0, .iload_n 3, 0, 0, 0, 99, 0), (34, 1, 0, .aload_n 0, 0, 0, 0, 99, 0), (35, 3, 3, .getfield 182, 8, 10, 0, 4, 175), (38, 3, 2, .if_icmp .gt 13, 0, 0, 0, 99, 0), (41, 1, 0, .iload_n 2, 0, 0, 0, 99, 0), (42, 1, 0, .iload_n 3, 0, 0, 0, 99, 0), (43, 1, 1, .imul, 0, 0, 0, 99, 0), (44, 1, 0, .istore_n 2, 0, 0, 0, 99, 0), (45, 3, 0, .iinc 3 1, 0, 0, 0, 99, 0), (48, 3, 2, .goto (-15), 0, 0, 0, 99, 0), (51, 2, 0, .bipush (-9), 0, 0, 0, 99, 0), (53, 1, 0, .istore_n 3, 0, 0, 0, 99, 0), (54, 1, 0, .iconst 0, 0, 0, 0, 99, 0), (55, 2, 0, .istore 4, 0, 0, 0, 99, 0), (57, 1, 0, .iconst 0, 0, 0, 0, 99, 0), (58, 2, 0, .istore 5, 0, 0, 0, 99, 0), (60, 2, 0, .iload 5, 0, 0, 0, 99, 0), (62, 1, 0, .iload_n 2, 0, 0, 0, 99, 0), (63, 3, 2, .if_icmp .ge 48, 0, 0, 0, 99, 0), (66, 1, 0, .aload_n 0, 0, 0, 0, 99, 0), (67, 2, 0, .iload 5, 0, 0, 0, 99, 0), (69, 3, 4, .invokevirtual 310, 223, 2, 0, 6, 169), (72, 1, 0, .aload_n 0, 0, 0, 0, 99, 0), (73, 1, 0, .iconst 1, 0, 0, 0, 99, 0), (74, 3, 4, .invokevirtual 302, 219, 2, 0, 6, 133), (77, 1, 0, .aload_n 0, 0, 0, 0, 99, 0), (78, 2, 0, .bipush (-9), 0, 0, 0, 99, 0), (80, 3, 4, .invokevirtual 273, 203, 2, 0, 6, 87), (83, 2, 0, .istore 6, 0, 0, 0, 99, 0), (85, 1, 0, .iload_n 3, 0, 0, 0, 99, 0), (86, 2, 0, .bipush (-9), 0, 0, 0, 99, 0), (88, 3, 2, .if_icmp .eq 10, 0, 0, 0, 99, 0), (91, 2, 0, .iload 6, 0, 0, 0, 99, 0), (93, 2, 0, .iload 4, 0, 0, 0, 99, 0), (95, 3, 2, .if_icmp .ge 10, 0, 0, 0, 99, 0), (98, 2, 0, .iload 5, 0, 0, 0, 99, 0), (100, 1, 0, .istore_n 3, 0, 0, 0, 99, 0), (101, 2, 0, .iload 6, 0, 0, 0, 99, 0), (103, 2, 0, .istore 4, 0, 0, 0, 99, 0), (105, 3, 0, .iinc 5 1, 0, 0, 0, 99, 0), (108, 3, 2, .goto (-48), 0, 0, 0, 99, 0), (111, 1, 0, .aload_n 0, 0, 0, 0, 99, 0), (112, 1, 0, .aload_n 0, 0, 0, 0, 99, 0), (113, 3, 3, .getfield 71, 8, 36, 1, 4, 201), (116, 3, 4, .invokevirtual 313, 222, 2, 0, 6, 173), (119, 1, 0, .aload_n 0, 0, 0, 0, 99, 0), (120, 1, 0, .iload_n 3, 0, 0, 0, 99, 0), (121, 3, 4, .invokevirtual 310, 223, 2, 0, 6, 169), (124, 1, 0, .aload_n 0, 0, 0, 0, 99, 0), (125, 3, 3, .getfield 13, 8, 3, 1, 4, 168), (128, 1, 0, .iload_n 1, 0, 0, 0, 99, 0), (129, 1, 0, .aload_n 0, 0, 0, 0, 99, 0), (130, 3, 3, .getfield 182, 8, 10, 0, 4, 175), (133, 1, 3, .iastore, 0, 0, 0, 99, 0), (134, 1, 0, .iconst 0, 0, 0, 0, 99, 0), (135, 2, 0, .istore 5, 0, 0, 0, 99, 0), (137, 2, 0, .iload 5, 0, 0, 0, 99, 0), (139, 2, 0, .bipush 48, 0, 0, 0, 99, 0), (141, 3, 2, .if_icmp .ge 41, 0, 0, 0, 99, 0), (144, 1, 0, .aload_n 0, 0, 0, 0, 99, 0), (145, 3, 3, .getfield 16, 8, 4, 1, 4, 169), (148, 2, 0, .bipush 48, 0, 0, 0, 99, 0), (150, 1, 0, .iload_n 1, 0, 0, 0, 99, 0), (151, 1, 1, .imul, 0, 0, 0, 99, 0), (152, 2, 0, .iload 5, 0, 0, 0, 99, 0), (154, 1, 1, .iadd, 0, 0, 0, 99, 0), (155, 2, 0, .iload 5, 0, 0, 0, 99, 0), (157, 1, 0, .aload_n 0, 0, 0, 0, 99, 0), (158, 3, 3, .getfield 182, 8, 10, 0, 4, 175), (161, 3, 2, .if_icmp .ge 13, 0, 0, 0, 99, 0), (164, 1, 0, .aload_n 0, 0, 0, 0, 99, 0), (165, 3, 3, .getfield 68, 8, 35, 1, 4, 200), (168, 2, 0, .iload 5, 0, 0, 0, 99, 0), (170, 1, 3, .iaload, 0, 0, 0, 99, 0), (171, 3, 2, .goto 4, 0, 0, 0, 99, 0), (174, 1, 0, .iconst 0, 0, 0, 0, 99, 0), (175, 1, 3, .iastore, 0, 0, 0, 99, 0), (176, 3, 0, .iinc 5 1, 0, 0, 0, 99, 0), (179, 3, 2, .goto (-42), 0, 0, 0, 99, 0), (182, 2, 0, .iload 4, 0, 0, 0, 99, 0), (184, 1, 2, .ireturn, 0, 0, 0, 99, 0)]
def pgX8_copyEnd : List (Nat × Nat × z_En) := [(0, 1, 0, .iconst 0, 0, 0, 0, 99, 0), (1, 1, 0, .istore_n 3, 0, 0, 0, 99, 0), (2, 1, 0, .iconst 0, 0, 0, 0, 99, 0), (3, 2, 0, .istore 4, 0, 0, 0, 99, 0), (5, 2, 0, .iload 4, 0, 0, 0, 99, 0), (7, 1, 0, .aload_n 0, 0, 0, 0, 99, 0), (8, 3, 3, .getfield 185, 8, 11, 0, 4, 176), (11, 3, 2, .if_icmp .ge 54, 0, 0, 0, 99, 0), (14, 1, 0, .aload_n 0, 0, 0, 0, 99, 0), (15, 2, 0, .iload 4, 0, 0, 0, 99, 0), (17, 3, 4, .invokevirtual 221, 191, 2, 0, 6, 27), (20, 3, 2, .ifCond .eq 37, 0, 0, 0, 99, 0), (23, 1, 0, .aload_n 0, 0, 0, 0, 99, 0), (24, 2, 0, .iload 4, 0, 0, 0, 99, 0), (26, 3, 4, .invokevirtual 206, 174, 2, 0, 5, 231), (29, 1, 0, .iload_n 1, 0, 0, 0, 99, 0), (30, 3, 2, .if_icmp .ne 27, 0, 0, 0, 99, 0), (33, 1, 0, .aload_n 0, 0, 0, 0, 99, 0), (34, 3, 3, .getfield 77, 8, 38, 1, 4, 203), (37, 2, 0, .iload 4, 0, 0, 0, 99, 0), (39, 1, 3, .iaload, 0, 0, 0, 99, 0), (40, 1, 0, .iload_n 2, 0, 0, 0, 99, 0), (41, 3, 2, .if_icmp .ne 16, 0, 0, 0, 99, 0), (44, 1, 0, .iload_n 3, 0, 0, 0, 99, 0), (45, 1, 0, .aload_n 0, 0, 0, 0, 99, 0), (46, 2, 0, .iload 4, 0, 0, 0, 99, 0), (48, 3, 4, .invokevirtual 224, 192, 2, 0, 6, 31), (51, 3, 4, .invokestatic 267, 139, 2, 1, 6, 95), (54, 3, 2, .goto 4, 0, 0, 0, 99, 0), (57, 1, 0, .iload_n 3, 0, 0, 0, 99, 0), (58, 1, 0, .istore_n 3, 0, 0, 0, 99, 0), (59, 3, 0, .iinc 4 1, 0, 0, 0, 99, 0), (62, 3, 2, .goto (-57), 0, 0, 0, 99, 0), (65, 1, 0, .iload_n 3, 0, 0, 0, 99, 0), (66, 1, 2, .ireturn, 0, 0, 0, 99, 0)]
def pgX8_freeCopy : List (Nat × Nat × z_En) := [(0, 1, 0, .aload_n 0, 0, 0, 0, 99, 0), (1, 1, 0, .iload_n 1, 0, 0, 0, 99, 0), (2, 3, 4, .invokevirtual 248, 176, 2, 0, 6, 63), (5, 1, 0, .iconst 2, 0, 0, 0, 99, 0), (6, 3, 2, .if_icmp .ne 22, 0, 0, 0, 99, 0), (9, 1, 0, .aload_n 0, 0, 0, 0, 99, 0), (10, 1, 0, .iload_n 1, 0, 0, 0, 99, 0), (11, 1, 0, .iconst 1, 0, 0, 0, 99, 0), (12, 3, 4, .invokevirtual 316, 225, 3, 0, 6, 224), (15, 1, 0, .aload_n 0, 0, 0, 0, 99, 0), (16, 1, 0, .iload_n 1, 0, 0, 0, 99, 0), (17, 1, 0, .iconst 0, 0, 0, 0, 99, 0), (18, 3, 4, .invokevirtual 316, 225, 3, 0, 6, 224), (21, 3, 2, .if_icmp .ge 7, 0, 0, 0, 99, 0), (24, 1, 0, .iconst 1, 0, 0, 0, 99, 0), (25, 3, 2, .goto 4, 0, 0, 0, 99, 0), (28, 1, 0, .iconst 0, 0, 0, 0, 99, 0), (29, 1, 2, .ireturn, 0, 0, 0, 99, 0)]
def pgX8_isNext : List (Nat × Nat × z_En) := [(0, 1, 0, .iconst 1, 0, 0, 0, 99, 0), (1, 1, 0, .istore_n 2, 0, 0, 0, 99, 0), (2, 1, 0, .iconst 0, 0, 0, 0, 99, 0), (3, 1, 0, .istore_n 3, 0, 0, 0, 99, 0), (4, 1, 0, .iload_n 3, 0, 0, 0, 99, 0), (5, 1, 0, .iload_n 1, 0, 0, 0, 99, 0), (6, 3, 2, .if_icmp .ge 59, 0, 0, 0, 99, 0), (9, 1, 0, .aload_n 0, 0, 0, 0, 99, 0), (10, 3, 3, .getfield 319, 8, 41, 3, 4, 206), (13, 3, 2, .ifCond .eq 52, 0, 0, 0, 99, 0), (16, 1, 0, .aload_n 0, 0, 0, 0, 99, 0), (17, 1, 0, .aload_n 0, 0, 0, 0, 99, 0), (18, 1, 0, .iload_n 1, 0, 0, 0, 99, 0), (19, 3, 4, .invokevirtual 197, 173, 2, 0, 5, 215), (22, 3, 4, .invokevirtual 230, 180, 2, 0, 6, 75), (25, 3, 2, .ifCond .eq 40, 0, 0, 0, 99, 0), (28, 1, 0, .iload_n 2, 0, 0, 0, 99, 0), (29, 3, 2, .ifCond .eq 28, 0, 0, 0, 99, 0), (32, 1, 0, .aload_n 0, 0, 0, 0, 99, 0), (33, 1, 0, .iload_n 3, 0, 0, 0, 99, 0), (34, 3, 4, .invokevirtual 197, 173, 2, 0, 5, 215), (37, 1, 0, .aload_n 0, 0, 0, 0, 99, 0), (38, 1, 0, .iload_n 1, 0, 0, 0, 99, 0), (39, 3, 4, .invokevirtual 197, 173, 2, 0, 5, 215), (42, 3, 2, .if_icmp .ne 11, 0, 0, 0, 99, 0), (45, 1, 0, .aload_n 0, 0, 0, 0, 99, 0), (46, 1, 0, .iload_n 3, 0, 0, 0, 99, 0), (47, 3, 4, .invokevirtual 221, 191, 2, 0, 6, 27), (50, 3, 2, .ifCond .eq 7, 0, 0, 0, 99, 0), (53, 1, 0, .iconst 1, 0, 0, 0, 99, 0), (54, 3, 2, .goto 4, 0, 0, 0, 99, 0), (57, 1, 0, .iconst 0, 0, 0, 0, 99, 0), (58, 1, 0, .istore_n 2, 0, 0, 0, 99, 0), (59, 3, 0, .iinc 3 1, 0, 0, 0, 99, 0), (62, 3, 2, .goto (-58), 0, 0, 0, 99, 0), (65, 1, 0, .iload_n 2, 0, 0, 0, 99, 0), (66, 1, 2, .ireturn, 0, 0, 3, 99, 0)]
def pgX8_letsAll : List (Nat × Nat × z_En) := [(0, 1, 0, .aload_n 0, 0, 0, 0, 99, 0), (1, 1, 0, .iload_n 1, 0, 0, 0, 99, 0), (2, 1, 0, .iload_n 2, 0, 0, 0, 99, 0), (3, 3, 4, .invokevirtual 257, 198, 3, 0, 6, 79), (6, 3, 2, .ifCond .ne 7, 0, 0, 0, 99, 0), (9, 1, 0, .iconst 1, 0, 0, 0, 99, 0), (10, 3, 2, .goto 4, 0, 0, 0, 99, 0), (13, 1, 0, .iconst 0, 0, 0, 0, 99, 0), (14, 1, 0, .istore_n 3, 0, 0, 0, 99, 0), (15, 1, 0, .iconst 0, 0, 0, 0, 99, 0), (16, 2, 0, .istore 4, 0, 0, 0, 99, 0), (18, 2, 0, .iload 4, 0, 0, 0, 99, 0), (20, 1, 0, .aload_n 0, 0, 0, 0, 99, 0), (21, 3, 3, .getfield 185, 8, 11, 0, 4, 176), (24, 3, 2, .if_icmp .ge 88, 0, 0, 0, 99, 0), (27, 1, 0, .iload_n 3, 0, 0, 0, 99, 0), (28, 3, 2, .ifCond .eq 84, 0, 0, 0, 99, 0), (31, 1, 0, .aload_n 0, 0, 0, 0, 99, 0), (32, 2, 0, .iload 4, 0, 0, 0, 99, 0), (34, 3, 4, .invokevirtual 206, 174, 2, 0, 5, 231), (37, 1, 0, .aload_n 0, 0, 0, 0, 99, 0), (38, 1, 0, .iload_n 1, 0, 0, 0, 99, 0), (39, 3, 4, .invokevirtual 206, 174, 2, 0, 5, 231), (42, 3, 2, .if_icmp .ne 27, 0, 0, 0, 99, 0), (45, 1, 0, .aload_n 0, 0, 0, 0, 99, 0), (46, 2, 0, .iload 4, 0, 0, 0, 99, 0), (48, 3, 4, .invokevirtual 221, 191, 2, 0, 6, 27), (51, 3, 2, .ifCond .eq 18, 0, 0, 0, 99, 0), (54, 1, 0, .aload_n 0, 0, 0, 0, 99, 0), (55, 3, 3, .getfield 59, 8, 32, 1, 4, 197), (58, 2, 0, .iload 4, 0, 0, 0, 99, 0), (60, 1, 3, .iaload, 0, 0, 0, 99, 0), (61, 1, 0, .iload_n 2, 0, 0, 0, 99, 0), (62, 3, 2, .if_icmp .le 7, 0, 0, 0, 99, 0), (65, 1, 0, .iconst 1, 0, 0, 0, 99, 0), (66, 3, 2, .goto 4, 0, 0, 0, 99, 0), (69, 1, 0, .iconst 0, 0, 0, 0, 99, 0), (70, 2, 0, .istore 5, 0, 0, 0, 99, 0), (72, 2, 0, .iload 5, 0, 0, 0, 99, 0), (74, 3, 2, .ifCond .eq 26, 0, 0, 0, 99, 0), (77, 1, 0, .aload_n 0, 0, 0, 0, 99, 0), (78, 1, 0, .aload_n 0, 0, 0, 0, 99, 0), (79, 2, 0, .iload 4, 0, 0, 0, 99, 0), (81, 3, 4, .invokevirtual 197, 173, 2, 0, 5, 215), (84, 1, 0, .aload_n 0, 0, 0, 0, 99, 0), (85, 1, 0, .iload_n 1, 0, 0, 0, 99, 0), (86, 3, 4, .invokevirtual 197, 173, 2, 0, 5, 215), (89, 1, 0, .aload_n 0, 0, 0, 0, 99, 0), (90, 1, 0, .iload_n 1, 0, 0, 0, 99, 0), (91, 3, 4, .invokevirtual 206, 174, 2, 0, 5, 231), (94, 3, 4, .invokevirtual 209, 181, 4, 0, 5, 235), (97, 3, 2, .ifCond .ne 7, 0, 0, 0, 99, 0), (100, 1, 0, .iconst 1, 0, 0, 0, 99, 0), (101, 3, 2, .goto 4, 0, 0, 0, 99, 0), (104, 1, 0, .iconst 0, 0, 0, 0, 99, 0), (105, 1, 0, .istore_n 3, 0, 0, 0, 99, 0), (106, 3, 0, .iinc 4 1, 0, 0, 0, 99, 0), (109, 3, 2, .goto (-91), 0, 0, 0, 99, 0), (112, 1, 0, .iload_n 3, 0, 0, 0, 99, 0), (113, 1, 2, .ireturn, 0, 0, 3, 99, 0)]
def pgX8_places : List (Nat × Nat × z_En) := [(0, 1, 0, .aload_n 0, 0, 0, 0, 99, 0), (1, 1, 0, .iload_n 1, 0, 0, 0, 99, 0), (2, 3, 4, .invokevirtual 323, 227, 2, 0, 6, 216), (5, 3, 2, .ifCond .ne 5, 0, 0, 0, 99, 0), (8, 1, 0, .iconst 0, 0, 0, 0, 99, 0), (9, 1, 2, .ireturn, 0, 0, 3, 99, 0), (10, 1, 0, .aload_n 0, 0, 0, 0, 99, 0), (11, 1, 0, .iload_n 1, 0, 0, 0, 99, 0), (12, 3, 4, .invokevirtual 197, 173, 2, 0, 5, 215), (15, 1, 0, .istore_n 2, 0, 0, 0, 99, 0), (16, 1, 0, .aload_n 0, 0, 0, 0, 99, 0), (17, 1, 0, .iload_n 1, 0, 0, 0, 99, 0), (18, 3, 4, .invokevirtual 206, 174, 2, 0, 5, 231), (21, 1, 0, .istore_n 3, 0, 0, 0, 99, 0), (22, 1, 0, .aload_n 0, 0, 0, 0, 99, 0), (23, 1, 0, .iload_n 3, 0, 0, 0, 99, 0), (24, 3, 4, .invokevirtual 326, 226, 2, 0, 6, 220), (27, 2, 0, .istore 4, 0, 0, 0, 99, 0), (29, 1, 0, .aload_n 0, 0, 0, 0, 99, 0), (30, 3, 3, .getfield 329, 8, 40, 0, 4, 205), (33, 1, 0, .aload_n 0, 0, 0, 0, 99, 0), (34, 1, 0, .iload_n 3, 0, 0, 0, 99, 0), (35, 2, 0, .iload 4, 0, 0, 0, 99, 0), (37, 3, 4, .invokevirtual 316, 225, 3, 0, 6, 224), (40, 3, 4, .invokestatic 267, 139, 2, 1, 6, 95), (43, 1, 0, .aload_n 0, 0, 0, 0, 99, 0), (44, 1, 0, .iload_n 2, 0, 0, 0, 99, 0), (45, 3, 4, .invokevirtual 296, 217, 2, 0, 6, 157), (48, 1, 0, .aload_n 0, 0, 0, 0, 99, 0), (49, 1, 0, .iload_n 3, 0, 0, 0, 99, 0), (50, 3, 4, .invokevirtual 239, 177, 2, 0, 6, 51), (53, 3, 4, .invokestatic 267, 139, 2, 1, 6, 95), (56, 3, 4, .invokestatic 267, 139, 2, 1, 6, 95), (59, 2, 0, .istore 5, 0, 0, 0, 99, 0), (61, 1, 0, .aload_n 0, 0, 0, 0, 99, 0), (62, 1, 0, .iload_n 2, 0, 0, 0, 99, 0), (63, 3, 4, .invokevirtual 236, 179, 2, 0, 6, 47), (66, 1, 0, .aload_n 0, 0, 0, 0, 99, 0), (67, 3, 3, .getfield 83, 8, 8, 0, 4, 173), (70, 3, 2, .if_icmp .ge 11, 0, 0, 0, 99, 0), (73, 1, 0, .aload_n 0, 0, 0, 0, 99, 0), (74, 1, 0, .iload_n 2, 0, 0, 0, 99, 0), (75, 3, 4, .invokevirtual 236, 179, 2, 0, 6, 47), (78, 3, 2, .goto 7, 0, 0, 0, 99, 0), (81, 1, 0, .aload_n 0, 0, 0, 0, 99, 0), (82, 3, 3, .getfield 83, 8, 8, 0, 4, 173), (85, 2, 0, .istore 6, 0, 0, 0, 99, 0), (87, 2, 0, .iload 5, 0, 0, 0, 99, 0), (89, 1, 0, .aload_n 0, 0, 0, 0, 99, 0), (90, 1, 0, .iload_n 1, 0, 0, 0, 99, 0), (91, 3, 4, .invokevirtual 218, 175, 2, 0, 6, 35), (94, 1, 1, .iadd, 0, 0, 0, 99, 0), (95, 2, 0, .iload 6, 0, 0, 0, 99, 0), (97, 3, 2, .if_icmp .gt 34, 0, 0, 0, 99, 0), (100, 1, 0, .aload_n 0, 0, 0, 0, 99, 0), (101, 1, 0, .iload_n 3, 0, 0, 0, 99, 0), (102, 2, 0, .iload 5, 0, 0, 0, 99, 0), (104, 1, 0, .aload_n 0, 0, 0, 0, 99, 0), (105, 1, 0, .iload_n 1, 0, 0, 0, 99, 0), (106, 3, 4, .invokevirtual 218, 175, 2, 0, 6, 35), (109, 3, 4, .invokevirtual 242, 182, 4, 0, 6, 55), (112, 3, 2, .ifCond .ne 13, 0, 0, 0, 99, 0), (115, 1, 0, .aload_n 0, 0, 0, 0, 99, 0), (116, 1, 0, .iload_n 1, 0, 0, 0, 99, 0), (117, 2, 0, .iload 5, 0, 0, 0, 99, 0), (119, 3, 4, .invokevirtual 332, 228, 3, 0, 6, 228), (122, 3, 2, .ifCond .ne 9, 0, 0, 0, 99, 0), (125, 3, 0, .iinc 5 1, 0, 0, 0, 99, 0), (128, 3, 2, .goto (-41), 0, 0, 0, 99, 0), (131, 2, 0, .iload 5, 0, 0, 0, 99, 0), (133, 1, 0, .aload_n 0, 0, 0, 0, 99, 0), (134, 1, 0, .iload_n 1, 0, 0, 0, 99, 0), (135, 3, 4, .invokevirtual 218, 175, 2, 0, 6, 35), (138, 1, 1, .iadd, 0, 0, 0, 99, 0), (139, 2, 0, .iload 6, 0, 0, 0, 99, 0), (141, 3, 2, .if_icmp .le 5, 0, 0, 0, 99, 0), (144, 1, 0, .iconst 0, 0, 0, 0, 99, 0), (145, 1, 2, .ireturn, 0, 0, 3, 99, 0), (146, 1, 0, .aload_n 0, 0, 0, 0, 99, 0), (147, 3, 3, .getfield 59, 8, 32, 1, 4, 197), (150, 1, 0, .iload_n 1, 0, 0, 0, 99, 0), (151, 2, 0, .iload 5, 0, 0, 0, 99, 0), (153, 1, 3, .iastore, 0, 0, 0, 99, 0), (154, 1, 0, .aload_n 0, 0, 0, 0, 99, 0), (155, 3, 3, .getfield 77, 8, 38, 1, 4, 203), (158, 1, 0, .iload_n 1, 0, 0, 0, 99, 0), (159, 2, 0, .iload 4, 0, 0, 0, 99, 0), (161, 1, 3, .iastore, 0, 0, 0, 99, 0), (162, 1, 0, .iconst 1, 0, 0, 0, 99, 0), (163, 1, 2, .ireturn, 0, 0, 3, 99, 0)]
def pgX8_missedLooked : List (Nat × Nat × z_En) := [(0, 1, 0, .iconst 0, 0, 0, 0, 99, 0), (1, 1, 0, .istore_n 1, 0, 0, 0, 99, 0), (2, 1, 0, .iconst 0, 0, 0, 0, 99, 0), (3, 1, 0, .istore_n 2, 0, 0, 0, 99, 0), (4, 1, 0, .iload_n 2, 0, 0, 0, 99, 0), (5, 1, 0, .aload_n 0, 0, 0, 0, 99, 0), (6, 3, 3, .getfield 185, 8, 11, 0, 4, 176), (9, 3, 2, .if_icmp .ge 61, 0, 0, 0, 99, 0), (12, 1, 0, .iload_n 1, 0, 0, 0, 99, 0), (13, 1, 0, .aload_n 0, 0, 0, 0, 99, 0), (14, 3, 3, .getfield 335, 8, 39, 0, 4, 204), (17, 1, 0, .iload_n 2, 0, 0, 0, 99, 0), (18, 3, 4, .invokestatic 143, 137, 2, 1, 5, 176), (21, 3, 2, .ifCond .eq 40, 0, 0, 0, 99, 0), (24, 1, 0, .aload_n 0, 0, 0, 0, 99, 0), (25, 3, 3, .getfield 35, 8, 16, 1, 4, 181), (28, 1, 0, .iconst 4, 0, 0, 0, 99, 0), (29, 1, 0, .iload_n 2, 0, 0, 0, 99, 0), (30, 1, 1, .imul, 0, 0, 0, 99, 0), (31, 1, 0, .iconst 3, 0, 0, 0, 99, 0), (32, 1, 1, .iadd, 0, 0, 0, 99, 0), (33, 1, 3, .iaload, 0, 0, 0, 99, 0), (34, 1, 0, .aload_n 0, 0, 0, 0, 99, 0), (35, 1, 0, .iload_n 2, 0, 0, 0, 99, 0), (36, 3, 4, .invokevirtual 221, 191, 2, 0, 6, 27), (39, 3, 2, .ifCond .eq 17, 0, 0, 0, 99, 0), (42, 1, 0, .aload_n 0, 0, 0, 0, 99, 0), (43, 1, 0, .iload_n 2, 0, 0, 0, 99, 0), (44, 1, 0, .aload_n 0, 0, 0, 0, 99, 0), (45, 3, 3, .getfield 59, 8, 32, 1, 4, 197), (48, 1, 0, .iload_n 2, 0, 0, 0, 99, 0), (49, 1, 3, .iaload, 0, 0, 0, 99, 0), (50, 3, 4, .invokevirtual 270, 202, 3, 0, 6, 91), (53, 3, 2, .goto 4, 0, 0, 0, 99, 0), (56, 1, 0, .iconst 0, 0, 0, 0, 99, 0), (57, 1, 1, .isub, 0, 0, 0, 99, 0), (58, 3, 2, .goto 4, 0, 0, 0, 99, 0), (61, 1, 0, .iconst 0, 0, 0, 0, 99, 0), (62, 1, 1, .iadd, 0, 0, 0, 99, 0), (63, 1, 0, .istore_n 1, 0, 0, 0, 99, 0), (64, 3, 0, .iinc 2 1, 0, 0, 0, 99, 0), (67, 3, 2, .goto (-63), 0, 0, 0, 99, 0), (70, 1, 0, .iload_n 1, 0, 0, 0, 99, 0), (71, 1, 2, .ireturn, 0, 0, 0, 99, 0)]
def pgX8_worst : List (Nat × Nat × z_En) := [(0, 1, 0, .iconst 0, 0, 0, 0, 99, 0), (1, 1, 0, .istore_n 1, 0, 0, 0, 99, 0), (2, 1, 0, .iconst 0, 0, 0, 0, 99, 0), (3, 1, 0, .istore_n 2, 0, 0, 0, 99, 0), (4, 1, 0, .iload_n 2, 0, 0, 0, 99, 0), (5, 1, 0, .aload_n 0, 0, 0, 0, 99, 0), (6, 3, 3, .getfield 182, 8, 10, 0, 4, 175), (9, 3, 2, .if_icmp .ge 19, 0, 0, 0, 99, 0), (12, 1, 0, .iload_n 1, 0, 0, 0, 99, 0), (13, 1, 0, .aload_n 0, 0, 0, 0, 99, 0), (14, 1, 0, .iload_n 2, 0, 0, 0, 99, 0), (15, 3, 4, .invokevirtual 273, 203, 2, 0, 6, 87), (18, 3, 4, .invokestatic 267, 139, 2, 1, 6, 95), (21, 1, 0, .istore_n 1, 0, 0, 0, 99, 0), (22, 3, 0, .iinc 2 1, 0, 0, 0, 99, 0), (25, 3, 2, .goto (-21), 0, 0, 0, 99, 0), (28, 1, 0, .iload_n 1, 0, 0, 0, 99, 0), (29, 1, 2, .ireturn, 0, 0, 0, 99, 0)]
def pgX8_lastEnd : List (Nat × Nat × z_En) := [(0, 1, 0, .iconst 0, 0, 0, 0, 99, 0), (1, 1, 0, .istore_n 1, 0, 0, 0, 99, 0), (2, 1, 0, .iconst 0, 0, 0, 0, 99, 0), (3, 1, 0, .istore_n 2, 0, 0, 0, 99, 0), (4, 1, 0, .iload_n 2, 0, 0, 0, 99, 0), (5, 1, 0, .aload_n 0, 0, 0, 0, 99, 0), (6, 3, 3, .getfield 185, 8, 11, 0, 4, 176), (9, 3, 2, .if_icmp .ge 31, 0, 0, 0, 99, 0), (12, 1, 0, .aload_n 0, 0, 0, 0, 99, 0), (13, 1, 0, .iload_n 2, 0, 0, 0, 99, 0), (14, 3, 4, .invokevirtual 221, 191, 2, 0, 6, 27), (17, 3, 2, .ifCond .eq 15, 0, 0, 0, 99, 0), (20, 1, 0, .iload_n 1, 0, 0, 0, 99, 0), (21, 1, 0, .aload_n 0, 0, 0, 0, 99, 0), (22, 1, 0, .iload_n 2, 0, 0, 0, 99, 0), (23, 3, 4, .invokevirtual 224, 192, 2, 0, 6, 31), (26, 3, 4, .invokestatic 267, 139, 2, 1, 6, 95), (29, 3, 2, .goto 4, 0, 0, 0, 99, 0), (32, 1, 0, .iload_n 1, 0, 0, 0, 99, 0), (33, 1, 0, .istore_n 1, 0, 0, 0, 99, 0), (34, 3, 0, .iinc 2 1, 0, 0, 0, 99, 0), (37, 3, 2, .goto (-33), 0, 0, 0, 99, 0), (40, 1, 0, .iload_n 1, 0, 0, 0, 99, 0), (41, 1, 2, .ireturn, 0, 0, 0, 99, 0)]
def pgX8_visit : List (Nat × Nat × z_En) := [(0, 1, 0, .iload_n 1, 0, 0, 0, 99, 0), (1, 1, 0, .aload_n 0, 0, 0, 0, 99, 0), (2, 3, 3, .getfield 338, 8, 45, 0, 4, 210), (5, 3, 2, .if_icmp .ne 7, 0, 0, 0, 99, 0), (8, 1, 0, .iconst 1, 0, 0, 0, 99, 0), (9, 3, 2, .goto 4, 0, 0, 0, 99, 0), (12, 1, 0, .iconst 0, 0, 0, 0, 99, 0), (13, 1, 0, .istore_n 2, 0, 0, 0, 99, 0), (14, 1, 0, .aload_n 0, 0, 0, 0, 99, 0), (15, 3, 3, .getfield 341, 8, 42, 0, 4, 207), (18, 1, 0, .iconst 1, 0, 0, 0, 99, 0), (19, 3, 2, .if_icmp .eq 11, 0, 0, 0, 99, 0), (22, 1, 0, .aload_n 0, 0, 0, 0, 99, 0), (23, 3, 3, .getfield 341, 8, 42, 0, 4, 207), (26, 1, 0, .iconst 3, 0, 0, 0, 99, 0), (27, 3, 2, .if_icmp .ne 8, 0, 0, 0, 99, 0), (30, 1, 0, .iload_n 2, 0, 0, 0, 99, 0), (31, 3, 2, .ifCond .ne 4, 0, 0, 0, 99, 0), (34, 1, 2, .return_, 0, 0, 0, 99, 0), (35, 1, 0, .aload_n 0, 0, 0, 0, 99, 0), (36, 3, 3, .getfield 341, 8, 42, 0, 4, 207), (39, 3, 2, .ifCond .ne 10, 0, 0, 0, 99, 0), (42, 1, 0, .aload_n 0, 0, 0, 0, 99, 0), (43, 3, 4, .invokevirtual 344, 230, 1, 0, 6, 200), (46, 3, 2, .goto 34, 0, 0, 0, 99, 0), (49, 1, 0, .aload_n 0, 0, 0, 0, 99, 0), (50, 3, 3, .getfield 341, 8, 42, 0, 4, 207), (53, 1, 0, .iconst 1, 0, 0, 0, 99, 0), (54, 3, 2, .if_icmp .ne 10, 0, 0, 0, 99, 0), (57, 1, 0, .aload_n 0, 0, 0, 0, 99, 0), (58, 3, 4, .invokevirtual 347, 232, 1, 0, 6, 204), (61, 3, 2, .goto 19, 0, 0, 0, 99, 0), (64, 1, 0, .aload_n 0, 0, 0, 0, 99, 0), (65, 3, 3, .getfield 341, 8, 42, 0, 4, 207), (68, 1, 0, .iconst 2, 0, 0, 0, 99, 0), (69, 3, 2, .if_icmp .ne 10, 0, 0, 0, 99, 0), (72, 1, 0, .aload_n 0, 0, 0, 0, 99, 0), (73, 3, 4, .invokevirtual 350, 231, 1, 0, 6, 208), (76, 3, 2, .goto 4, 0, 0, 0, 99, 0), (79, 1, 0, .iconst 0, 0, 0, 0, 99, 0), (80, 1, 0, .istore_n 3, 0, 0, 0, 99, 0), (81, 1, 0, .aload_n 0, 0, 0, 0, 99, 0), (82, 3, 3, .getfield 353, 8, 43, 0, 4, 208), (85, 3, 2, .ifCond .lt 11, 0, 0, 0, 99, 0), (88, 1, 0, .iload_n 3, 0, 0, 0, 99, 0), (89, 1, 0, .aload_n 0, 0, 0, 0, 99, 0), (90, 3, 3, .getfield 353, 8, 43, 0, 4, 208), (93, 3, 2, .if_icmp .ge 26, 0, 0, 0, 99, 0), (96, 1, 0, .aload_n 0, 0, 0, 0, 99, 0), (97, 1, 0, .iload_n 3, 0, 0, 0, 99, 0), (98, 3, 3, .putfield 353, 8, 43, 0, 4, 208), (101, 1, 0, .aload_n 0, 0, 0, 0, 99, 0), (102, 1, 0, .aload_n 0, 0, 0, 0, 99, 0), (103, 2, 0, .bipush (-9), 0, 0, 0, 99, 0), (105, 3, 4, .invokevirtual 273, 203, 2, 0, 6, 87), (108, 3, 3, .putfield 356, 8, 44, 0, 4, 209), (111, 1, 0, .aload_n 0, 0, 0, 0, 99, 0), (112, 1, 0, .aload_n 0, 0, 0, 0, 99, 0), (113, 3, 3, .getfield 74, 8, 37, 1, 4, 202), (116, 3, 4, .invokevirtual 306, 221, 2, 0, 6, 165), (119, 1, 2, .return_, 0, 0, 0, 99, 0)]
def pgX8_search : List (Nat × Nat × z_En) := [(0, 1, 0, .aload_n 0, 0, 0, 0, 99, 0), (1, 1, 0, .iload_n 1, 0, 0, 0, 99, 0), (2, 3, 3, .putfield 341, 8, 42, 0, 4, 207), (5, 1, 0, .aload_n 0, 0, 0, 0, 99, 0), (6, 2, 0, .bipush (-9), 0, 0, 0, 99, 0), (8, 3, 3, .putfield 353, 8, 43, 0, 4, 208), (11, 1, 0, .aload_n 0, 0, 0, 0, 99, 0), (12, 1, 0, .iconst 0, 0, 0, 0, 99, 0), (13, 3, 3, .putfield 338, 8, 45, 0, 4, 210), (16, 1, 0, .iconst 0, 0, 0, 0, 99, 0), (17, 1, 0, .istore_n 2, 0, 0, 0, 99, 0), (18, 1, 0, .iload_n 2, 0, 0, 0, 99, 0), (19, 1, 0, .aload_n 0, 0, 0, 0, 99, 0), (20, 3, 3, .getfield 185, 8, 11, 0, 4, 176), (23, 3, 2, .if_icmp .ge 42, 0, 0, 0, 99, 0), (26, 1, 0, .aload_n 0, 0, 0, 0, 99, 0), (27, 1, 0, .dup, 0, 0, 0, 99, 0), (28, 3, 3, .getfield 338, 8, 45, 0, 4, 210), (31, 1, 0, .aload_n 0, 0, 0, 0, 99, 0), (32, 3, 3, .getfield 335, 8, 39, 0, 4, 204), (35, 1, 0, .iload_n 2, 0, 0, 0, 99, 0), (36, 3, 4, .invokestatic 143, 137, 2, 1, 5, 176), (39, 3, 2, .ifCond .eq 15, 0, 0, 0, 99, 0), (42, 1, 0, .aload_n 0, 0, 0, 0, 99, 0), (43, 1, 0, .iload_n 2, 0, 0, 0, 99, 0), (44, 3, 4, .invokevirtual 221, 191, 2, 0, 6, 27), (47, 3, 2, .ifCond .ne 7, 0, 0, 0, 99, 0), (50, 1, 0, .iconst 1, 0, 0, 0, 99, 0), (51, 3, 2, .goto 4, 0, 0, 0, 99, 0), (54, 1, 0, .iconst 0, 0, 0, 0, 99, 0), (55, 1, 1, .iadd, 0, 0, 0, 99, 0), (56, 3, 3, .putfield 338, 8, 45, 0, 4, 210), (59, 3, 0, .iinc 2 1, 0, 0, 0, 99, 0), (62, 3, 2, .goto (-44), 0, 0, 0, 99, 0), (65, 1, 0, .iconst 0, 0, 0, 0, 99, 0), (66, 1, 0, .istore_n 2, 0, 0, 0, 99, 0), (67, 1, 0, .aload_n 0, 0, 0, 0, 99, 0), (68, 3, 3, .getfield 80, 8, 46, 1, 4, 211), (71, 1, 0, .iconst 0, 0, 0, 0, 99, 0), (72, 1, 0, .iconst (-1), 0, 0, 0, 99, 0), (73, 1, 3, .iastore, 0, 0, 0, 99, 0), (74, 1, 0, .aload_n 0, 0, 0, 0, 99, 0), (75, 1, 0, .iconst 0, 0, 0, 0, 99, 0), (76, 3, 4, .invokevirtual 359, 233, 2, 0, 6, 196), (79, 1, 0, .iload_n 2, 0, 0, 0, 99, 0), (80, 3, 2, .ifCond .lt 135, 0, 0, 0, 99, 0), (83, 1, 0, .aload_n 0, 0, 0, 0, 99, 0), (84, 3, 3, .getfield 341, 8, 42, 0, 4, 207), (87, 1, 0, .iconst 3, 0, 0, 0, 99, 0), (88, 3, 2, .if_icmp .ne 10, 0, 0, 0, 99, 0), (91, 1, 0, .aload_n 0, 0, 0, 0, 99, 0), (92, 3, 3, .getfield 353, 8, 43, 0, 4, 208), (95, 3, 2, .ifCond .ge 120, 0, 0, 0, 99, 0), (98, 1, 0, .aload_n 0, 0, 0, 0, 99, 0), (99, 3, 3, .getfield 80, 8, 46, 1, 4, 211), (102, 1, 0, .iload_n 2, 0, 0, 0, 99, 0), (103, 1, 3, .iaload, 0, 0, 0, 99, 0), (104, 1, 0, .iconst 1, 0, 0, 0, 99, 0), (105, 1, 1, .iadd, 0, 0, 0, 99, 0), (106, 1, 0, .istore_n 3, 0, 0, 0, 99, 0), (107, 1, 0, .iload_n 3, 0, 0, 0, 99, 0), (108, 1, 0, .aload_n 0, 0, 0, 0, 99, 0), (109, 3, 3, .getfield 185, 8, 11, 0, 4, 176), (112, 3, 2, .if_icmp .ge 36, 0, 0, 0, 99, 0), (115, 1, 0, .aload_n 0, 0, 0, 0, 99, 0), (116, 3, 3, .getfield 335, 8, 39, 0, 4, 204), (119, 1, 0, .iload_n 3, 0, 0, 0, 99, 0), (120, 3, 4, .invokestatic 143, 137, 2, 1, 5, 176), (123, 3, 2, .ifCond .eq 19, 0, 0, 0, 99, 0), (126, 1, 0, .aload_n 0, 0, 0, 0, 99, 0), (127, 1, 0, .iload_n 3, 0, 0, 0, 99, 0), (128, 3, 4, .invokevirtual 221, 191, 2, 0, 6, 27), (131, 3, 2, .ifCond .ne 11, 0, 0, 0, 99, 0), (134, 1, 0, .aload_n 0, 0, 0, 0, 99, 0), (135, 1, 0, .iload_n 3, 0, 0, 0, 99, 0), (136, 3, 4, .invokevirtual 362, 229, 2, 0, 6, 212), (139, 3, 2, .ifCond .ne 9, 0, 0, 0, 99, 0), (142, 3, 0, .iinc 3 1, 0, 0, 0, 99, 0), (145, 3, 2, .goto (-38), 0, 0, 0, 99, 0), (148, 1, 0, .aload_n 0, 0, 0, 0, 99, 0), (149, 3, 3, .getfield 80, 8, 46, 1, 4, 211), (152, 1, 0, .iload_n 2, 0, 0, 0, 99, 0), (153, 1, 0, .iload_n 3, 0, 0, 0, 99, 0), (154, 1, 3, .iastore, 0, 0, 0, 99, 0), (155, 1, 0, .iload_n 3, 0, 0, 0, 99, 0), (156, 1, 0, .aload_n 0, 0, 0, 0, 99, 0), (157, 3, 3, .getfield 185, 8, 11, 0, 4, 176), (160, 3, 2, .if_icmp .ge 32, 0, 0, 0, 99, 0), (163, 3, 0, .iinc 2 1, 0, 0, 0, 99, 0), (166, 1, 0, .aload_n 0, 0, 0, 0, 99, 0), (167, 3, 3, .getfield 80, 8, 46, 1, 4, 211), (170, 1, 0, .iload_n 2, 0, 0, 0, 99, 0), (171, 2, 0, .bipush 9, 0, 0, 0, 99, 0), (173, 3, 2, .if_icmp .ge 7, 0, 0, 0, 99, 0), (176, 1, 0, .iload_n 2, 0, 0, 0, 99, 0), (177, 3, 2, .goto 5, 0, 0, 0, 99, 0), (180, 2, 0, .bipush 8, 0, 0, 0, 99, 0), (182, 1, 0, .iconst (-1), 0, 0, 0, 99, 0), (183, 1, 3, .iastore, 0, 0, 0, 99, 0), (184, 1, 0, .aload_n 0, 0, 0, 0, 99, 0), (185, 1, 0, .iload_n 2, 0, 0, 0, 99, 0), (186, 3, 4, .invokevirtual 359, 233, 2, 0, 6, 196), (189, 3, 2, .goto 23, 0, 0, 0, 99, 0), (192, 3, 0, .iinc 2 (-1), 0, 0, 0, 99, 0), (195, 1, 0, .iload_n 2, 0, 0, 0, 99, 0), (196, 3, 2, .ifCond .lt 16, 0, 0, 0, 99, 0), (199, 1, 0, .aload_n 0, 0, 0, 0, 99, 0), (200, 3, 3, .getfield 59, 8, 32, 1, 4, 197), (203, 1, 0, .aload_n 0, 0, 0, 0, 99, 0), (204, 3, 3, .getfield 80, 8, 46, 1, 4, 211), (207, 1, 0, .iload_n 2, 0, 0, 0, 99, 0), (208, 1, 3, .iaload, 0, 0, 0, 99, 0), (209, 2, 0, .bipush (-9), 0, 0, 0, 99, 0), (211, 1, 3, .iastore, 0, 0, 0, 99, 0), (212, 3, 2, .goto (-133), 0, 0, 0, 99, 0), (215, 1, 2, .return_, 0, 0, 0, 99, 0)]
def pgX8_begins : List (Nat × Nat × z_En) := [(0, 1, 0, .aload_n 0, 0, 0, 0, 99, 0), (1, 1, 0, .iload_n 1, 0, 0, 0, 99, 0), (2, 3, 3, .putfield 335, 8, 39, 0, 4, 204), (5, 1, 0, .aload_n 0, 0, 0, 0, 99, 0), (6, 1, 0, .iconst 0, 0, 0, 0, 99, 0), (7, 3, 3, .putfield 329, 8, 40, 0, 4, 205), (10, 1, 0, .aload_n 0, 0, 0, 0, 99, 0), (11, 1, 0, .iconst 1, 0, 0, 0, 99, 0), (12, 3, 3, .putfield 319, 8, 41, 3, 4, 206), (15, 1, 0, .iconst 0, 0, 0, 0, 99, 0), (16, 1, 0, .istore_n 2, 0, 0, 0, 99, 0), (17, 1, 0, .iload_n 2, 0, 0, 0, 99, 0), (18, 2, 0, .bipush 24, 0, 0, 0, 99, 0), (20, 3, 2, .if_icmp .ge 17, 0, 0, 0, 99, 0), (23, 1, 0, .aload_n 0, 0, 0, 0, 99, 0), (24, 3, 3, .getfield 59, 8, 32, 1, 4, 197), (27, 1, 0, .iload_n 2, 0, 0, 0, 99, 0), (28, 2, 0, .bipush (-9), 0, 0, 0, 99, 0), (30, 1, 3, .iastore, 0, 0, 0, 99, 0), (31, 3, 0, .iinc 2 1, 0, 0, 0, 99, 0), (34, 3, 2, .goto (-17), 0, 0, 0, 99, 0), (37, 1, 0, .iload_n 1, 0, 0, 0, 99, 0), (38, 3, 4, .invokestatic 365, 138, 1, 1, 6, 189), (41, 2, 0, .bipush 8, 0, 0, 0, 99, 0), (43, 3, 2, .if_icmp .gt 7, 0, 0, 0, 99, 0), (46, 1, 0, .iconst 1, 0, 0, 0, 99, 0), (47, 3, 2, .goto 4, 0, 0, 0, 99, 0), (50, 1, 0, .iconst 0, 0, 0, 0, 99, 0), (51, 1, 2, .ireturn, 0, 0, 3, 99, 0)]
def pgX8_allWants : List (Nat × Nat × z_En) := [(0, 1, 0, .iconst 1, 0, 0, 0, 99, 0), (1, 1, 0, .aload_n 0, 0, 0, 0, 99, 0), (2, 3, 3, .getfield 185, 8, 11, 0, 4, 176), (5, 1, 1, .ishl, 0, 0, 0, 99, 0), (6, 1, 0, .iconst 1, 0, 0, 0, 99, 0), (7, 1, 1, .isub, 0, 0, 0, 99, 0), (8, 1, 2, .ireturn, 0, 0, 0, 99, 0)]
def pgX8_least : List (Nat × Nat × z_En) := [(0, 1, 0, .aload_n 0, 0, 0, 0, 99, 0), (1, 3, 3, .getfield 185, 8, 11, 0, 4, 176), (4, 2, 0, .bipush 8, 0, 0, 0, 99, 0), (6, 3, 2, .if_icmp .le 6, 0, 0, 0, 99, 0), (9, 2, 0, .bipush (-6), 0, 0, 0, 99, 0), (11, 1, 2, .ireturn, 0, 0, 0, 99, 0), (12, 1, 0, .aload_n 0, 0, 0, 0, 99, 0), (13, 1, 0, .aload_n 0, 0, 0, 0, 99, 0), (14, 3, 4, .invokevirtual 368, 236, 1, 0, 6, 181), (17, 3, 4, .invokevirtual 371, 235, 2, 0, 6, 185), (20, 1, 0, .pop, 0, 0, 0, 99, 0), (21, 1, 0, .aload_n 0, 0, 0, 0, 99, 0), (22, 1, 0, .iconst 0, 0, 0, 0, 99, 0), (23, 3, 4, .invokevirtual 374, 234, 2, 0, 6, 192), (26, 1, 0, .aload_n 0, 0, 0, 0, 99, 0), (27, 1, 0, .aload_n 0, 0, 0, 0, 99, 0), (28, 3, 3, .getfield 74, 8, 37, 1, 4, 202), (31, 3, 4, .invokevirtual 313, 222, 2, 0, 6, 173), (34, 1, 0, .aload_n 0, 0, 0, 0, 99, 0), (35, 3, 3, .getfield 353, 8, 43, 0, 4, 208), (38, 1, 2, .ireturn, 0, 0, 0, 99, 0)]
def pgX8_mend : List (Nat × Nat × z_En) := [(0, 1, 0, .iload_n 1, 0, 0, 0, 99, 0), (1, 1, 0, .iconst 0, 0, 0, 0, 99, 0), (2, 2, 0, .bipush 59, 0, 0, 0, 99, 0), (4, 3, 4, .invokestatic 90, 136, 3, 1, 5, 79), (7, 3, 2, .ifCond .ne 5, 0, 0, 0, 99, 0), (10, 1, 0, .iconst (-1), 0, 0, 0, 99, 0), (11, 1, 2, .ireturn, 0, 0, 0, 99, 0), (12, 1, 0, .aload_n 0, 0, 0, 0, 99, 0), (13, 3, 4, .invokevirtual 263, 200, 1, 0, 6, 19), (16, 2, 0, .bipush (-9), 0, 0, 0, 99, 0), (18, 3, 2, .if_icmp .eq 6, 0, 0, 0, 99, 0), (21, 2, 0, .bipush (-4), 0, 0, 0, 99, 0), (23, 1, 2, .ireturn, 0, 0, 0, 99, 0), (24, 1, 0, .iconst 0, 0, 0, 0, 99, 0), (25, 1, 0, .istore_n 2, 0, 0, 0, 99, 0), (26, 1, 0, .iconst 0, 0, 0, 0, 99, 0), (27, 1, 0, .istore_n 3, 0, 0, 0, 99, 0), (28, 1, 0, .iload_n 3, 0, 0, 0, 99, 0), (29, 1, 0, .aload_n 0, 0, 0, 0, 99, 0), (30, 3, 3, .getfield 185, 8, 11, 0, 4, 176), (33, 3, 2, .if_icmp .ge 35, 0, 0, 0, 99, 0), (36, 1, 0, .iload_n 2, 0, 0, 0, 99, 0), (37, 1, 0, .aload_n 0, 0, 0, 0, 99, 0), (38, 1, 0, .iload_n 3, 0, 0, 0, 99, 0), (39, 3, 4, .invokevirtual 221, 191, 2, 0, 6, 27), (42, 3, 2, .ifCond .eq 17, 0, 0, 0, 99, 0), (45, 1, 0, .aload_n 0, 0, 0, 0, 99, 0), (46, 3, 3, .getfield 59, 8, 32, 1, 4, 197), (49, 1, 0, .iload_n 3, 0, 0, 0, 99, 0), (50, 1, 3, .iaload, 0, 0, 0, 99, 0), (51, 1, 0, .iload_n 1, 0, 0, 0, 99, 0), (52, 3, 2, .if_icmp .ge 7, 0, 0, 0, 99, 0), (55, 1, 0, .iconst 0, 0, 0, 0, 99, 0), (56, 3, 2, .goto 4, 0, 0, 0, 99, 0), (59, 1, 0, .iconst 1, 0, 0, 0, 99, 0), (60, 1, 1, .iadd, 0, 0, 0, 99, 0), (61, 1, 0, .istore_n 2, 0, 0, 0, 99, 0), (62, 3, 0, .iinc 3 1, 0, 0, 0, 99, 0), (65, 3, 2, .goto (-37), 0, 0, 0, 99, 0), (68, 1, 0, .iload_n 2, 0, 0, 0, 99, 0), (69, 2, 0, .bipush 8, 0, 0, 0, 99, 0), (71, 3, 2, .if_icmp .le 6, 0, 0, 0, 99, 0), (74, 2, 0, .bipush (-6), 0, 0, 0, 99, 0), (76, 1, 2, .ireturn, 0, 0, 0, 99, 0), (77, 1, 0, .aload_n 0, 0, 0, 0, 99, 0), (78, 1, 0, .aload_n 0, 0, 0, 0, 99, 0), (79, 3, 3, .getfield 71, 8, 36, 1, 4, 201), (82, 3, 4, .invokevirtual 306, 221, 2, 0, 6, 165), (85, 1, 0, .aload_n 0, 0, 0, 0, 99, 0), (86, 1, 0, .aload_n 0, 0, 0, 0, 99, 0), (87, 3, 4, .invokevirtual 368, 236, 1, 0, 6, 181), (90, 3, 4, .invokevirtual 371, 235, 2, 0, 6, 185), (93, 1, 0, .pop, 0, 0, 0, 99, 0), (94, 1, 0, .iconst 0, 0, 0, 0, 99, 0), (95, 1, 0, .istore_n 3, 0, 0, 0, 99, 0), (96, 1, 0, .iload_n 3, 0, 0, 0, 99, 0), (97, 1, 0, .iload_n 1, 0, 0, 0, 99, 0), (98, 3, 2, .if_icmp .ge 63, 0, 0, 0, 99, 0), (101, 1, 0, .iconst 0, 0, 0, 0, 99, 0), (102, 2, 0, .istore 4, 0, 0, 0, 99, 0), (104, 2, 0, .iload 4, 0, 0, 0, 99, 0), (106, 1, 0, .aload_n 0, 0, 0, 0, 99, 0), (107, 3, 3, .getfield 185, 8, 11, 0, 4, 176), (110, 3, 2, .if_icmp .ge 45, 0, 0, 0, 99, 0), (113, 1, 0, .aload_n 0, 0, 0, 0, 99, 0), (114, 3, 3, .getfield 71, 8, 36, 1, 4, 201), (117, 2, 0, .iload 4, 0, 0, 0, 99, 0), (119, 1, 3, .iaload, 0, 0, 0, 99, 0), (120, 1, 0, .iload_n 3, 0, 0, 0, 99, 0), (121, 3, 2, .if_icmp .ne 28, 0, 0, 0, 99, 0), (124, 1, 0, .aload_n 0, 0, 0, 0, 99, 0), (125, 3, 3, .getfield 77, 8, 38, 1, 4, 203), (128, 2, 0, .iload 4, 0, 0, 0, 99, 0), (130, 1, 0, .aload_n 0, 0, 0, 0, 99, 0), (131, 1, 0, .aload_n 0, 0, 0, 0, 99, 0), (132, 2, 0, .iload 4, 0, 0, 0, 99, 0), (134, 3, 4, .invokevirtual 206, 174, 2, 0, 5, 231), (137, 3, 4, .invokevirtual 326, 226, 2, 0, 6, 220), (140, 1, 3, .iastore, 0, 0, 0, 99, 0), (141, 1, 0, .aload_n 0, 0, 0, 0, 99, 0), (142, 3, 3, .getfield 59, 8, 32, 1, 4, 197), (145, 2, 0, .iload 4, 0, 0, 0, 99, 0), (147, 1, 0, .iload_n 3, 0, 0, 0, 99, 0), (148, 1, 3, .iastore, 0, 0, 0, 99, 0), (149, 3, 0, .iinc 4 1, 0, 0, 0, 99, 0), (152, 3, 2, .goto (-48), 0, 0, 0, 99, 0), (155, 3, 0, .iinc 3 1, 0, 0, 0, 99, 0), (158, 3, 2, .goto (-62), 0, 0, 0, 99, 0), (161, 1, 0, .aload_n 0, 0, 0, 0, 99, 0), (162, 1, 0, .iload_n 1, 0, 0, 0, 99, 0), (163, 3, 3, .putfield 329, 8, 40, 0, 4, 205), (166, 1, 0, .aload_n 0, 0, 0, 0, 99, 0), (167, 1, 0, .iconst 0, 0, 0, 0, 99, 0), (168, 3, 4, .invokevirtual 374, 234, 2, 0, 6, 192), (171, 1, 0, .aload_n 0, 0, 0, 0, 99, 0), (172, 1, 0, .aload_n 0, 0, 0, 0, 99, 0), (173, 3, 3, .getfield 74, 8, 37, 1, 4, 202), (176, 3, 4, .invokevirtual 313, 222, 2, 0, 6, 173), (179, 1, 0, .aload_n 0, 0, 0, 0, 99, 0), (180, 3, 3, .getfield 353, 8, 43, 0, 4, 208), (183, 1, 2, .ireturn, 0, 0, 0, 99, 0)]
def pgX8_soon : List (Nat × Nat × z_En) := [(0, 1, 0, .aload_n 0, 0, 0, 0, 99, 0), (1, 3, 3, .getfield 185, 8, 11, 0, 4, 176), (4, 2, 0, .bipush 8, 0, 0, 0, 99, 0), (6, 3, 2, .if_icmp .le 6, 0, 0, 0, 99, 0), (9, 2, 0, .bipush (-6), 0, 0, 0, 99, 0), (11, 1, 2, .ireturn, 0, 0, 0, 99, 0), (12, 1, 0, .aload_n 0, 0, 0, 0, 99, 0), (13, 1, 0, .aload_n 0, 0, 0, 0, 99, 0), (14, 3, 3, .getfield 71, 8, 36, 1, 4, 201), (17, 3, 4, .invokevirtual 306, 221, 2, 0, 6, 165), (20, 1, 0, .aload_n 0, 0, 0, 0, 99, 0), (21, 1, 0, .aload_n 0, 0, 0, 0, 99, 0), (22, 3, 4, .invokevirtual 368, 236, 1, 0, 6, 181), (25, 3, 4, .invokevirtual 371, 235, 2, 0, 6, 185), (28, 1, 0, .pop, 0, 0, 0, 99, 0), (29, 1, 0, .aload_n 0, 0, 0, 0, 99, 0), (30, 1, 0, .iconst 1, 0, 0, 0, 99, 0), (31, 3, 4, .invokevirtual 374, 234, 2, 0, 6, 192), (34, 1, 0, .aload_n 0, 0, 0, 0, 99, 0), (35, 1, 0, .aload_n 0, 0, 0, 0, 99, 0), (36, 3, 3, .getfield 71, 8, 36, 1, 4, 201), (39, 3, 4, .invokevirtual 313, 222, 2, 0, 6, 173), (42, 1, 0, .aload_n 0, 0, 0, 0, 99, 0), (43, 3, 3, .getfield 353, 8, 43, 0, 4, 208), (46, 3, 2, .ifCond .ge 8, 0, 0, 0, 99, 0), (49, 2, 0, .bipush (-9), 0, 0, 0, 99, 0), (51, 3, 2, .goto 7, 0, 0, 0, 99, 0), (54, 1, 0, .aload_n 0, 0, 0, 0, 99, 0), (55, 3, 3, .getfield 353, 8, 43, 0, 4, 208), (58, 1, 2, .ireturn, 0, 0, 0, 99, 0)]
def pgX8_even : List (Nat × Nat × z_En) := [(0, 1, 0, .aload_n 0, 0, 0, 0, 99, 0), (1, 3, 3, .getfield 185, 8, 11, 0, 4, 176), (4, 2, 0, .bipush 8, 0, 0, 0, 99, 0), (6, 3, 2, .if_icmp .le 6, 0, 0, 0, 99, 0), (9, 2, 0, .bipush (-6), 0, 0, 0, 99, 0), (11, 1, 2, .ireturn, 0, 0, 0, 99, 0), (12, 1, 0, .aload_n 0, 0, 0, 0, 99, 0), (13, 1, 0, .aload_n 0, 0, 0, 0, 99, 0), (14, 3, 3, .getfield 71, 8, 36, 1, 4, 201), (17, 3, 4, .invokevirtual 306, 221, 2, 0, 6, 165), (20, 1, 0, .aload_n 0, 0, 0, 0, 99, 0), (21, 1, 0, .aload_n 0, 0, 0, 0, 99, 0), (22, 3, 4, .invokevirtual 368, 236, 1, 0, 6, 181), (25, 3, 4, .invokevirtual 371, 235, 2, 0, 6, 185), (28, 1, 0, .pop, 0, 0, 0, 99, 0), (29, 1, 0, .aload_n 0, 0, 0, 0, 99, 0), (30, 1, 0, .iconst 2, 0, 0, 0, 99, 0), (31, 3, 4, .invokevirtual 374, 234, 2, 0, 6, 192), (34, 1, 0, .aload_n 0, 0, 0, 0, 99, 0), (35, 1, 0, .aload_n 0, 0, 0, 0, 99, 0), (36, 3, 3, .getfield 71, 8, 36, 1, 4, 201), (39, 3, 4, .invokevirtual 313, 222, 2, 0, 6, 173), (42, 1, 0, .aload_n 0, 0, 0, 0, 99, 0), (43, 1, 0, .aload_n 0, 0, 0, 0, 99, 0), (44, 3, 3, .getfield 356, 8, 44, 0, 4, 209), (47, 1, 0, .aload_n 0, 0, 0, 0, 99, 0), (48, 3, 3, .getfield 353, 8, 43, 0, 4, 208), (51, 3, 4, .invokevirtual 109, 143, 3, 0, 5, 105), (54, 1, 2, .ireturn, 0, 0, 0, 99, 0)]
def pgX8_bound : List (Nat × Nat × z_En) := [(0, 1, 0, .aload_n 0, 0, 0, 0, 99, 0), (1, 1, 0, .aload_n 0, 0, 0, 0, 99, 0), (2, 3, 3, .getfield 71, 8, 36, 1, 4, 201), (5, 3, 4, .invokevirtual 306, 221, 2, 0, 6, 165), (8, 1, 0, .iconst 0, 0, 0, 0, 99, 0), (9, 1, 0, .istore_n 1, 0, 0, 0, 99, 0), (10, 1, 0, .iconst 0, 0, 0, 0, 99, 0), (11, 1, 0, .istore_n 2, 0, 0, 0, 99, 0), (12, 1, 0, .iload_n 2, 0, 0, 0, 99, 0), (13, 1, 0, .aload_n 0, 0, 0, 0, 99, 0), (14, 3, 3, .getfield 179, 8, 9, 0, 4, 174), (17, 3, 2, .if_icmp .ge 73, 0, 0, 0, 99, 0), (20, 1, 0, .iconst 0, 0, 0, 0, 99, 0), (21, 1, 0, .istore_n 3, 0, 0, 0, 99, 0), (22, 1, 0, .iconst 0, 0, 0, 0, 99, 0), (23, 2, 0, .istore 4, 0, 0, 0, 99, 0), (25, 2, 0, .iload 4, 0, 0, 0, 99, 0), (27, 1, 0, .aload_n 0, 0, 0, 0, 99, 0), (28, 3, 3, .getfield 185, 8, 11, 0, 4, 176), (31, 3, 2, .if_icmp .ge 30, 0, 0, 0, 99, 0), (34, 1, 0, .iload_n 3, 0, 0, 0, 99, 0), (35, 1, 0, .aload_n 0, 0, 0, 0, 99, 0), (36, 2, 0, .iload 4, 0, 0, 0, 99, 0), (38, 3, 4, .invokevirtual 206, 174, 2, 0, 5, 231), (41, 1, 0, .iload_n 2, 0, 0, 0, 99, 0), (42, 3, 2, .if_icmp .ne 10, 0, 0, 0, 99, 0), (45, 1, 0, .iconst 1, 0, 0, 0, 99, 0), (46, 2, 0, .iload 4, 0, 0, 0, 99, 0), (48, 1, 1, .ishl, 0, 0, 0, 99, 0), (49, 3, 2, .goto 4, 0, 0, 0, 99, 0), (52, 1, 0, .iconst 0, 0, 0, 0, 99, 0), (53, 1, 1, .ior, 0, 0, 0, 99, 0), (54, 1, 0, .istore_n 3, 0, 0, 0, 99, 0), (55, 3, 0, .iinc 4 1, 0, 0, 0, 99, 0), (58, 3, 2, .goto (-33), 0, 0, 0, 99, 0), (61, 1, 0, .aload_n 0, 0, 0, 0, 99, 0), (62, 1, 0, .iload_n 3, 0, 0, 0, 99, 0), (63, 3, 4, .invokevirtual 371, 235, 2, 0, 6, 185), (66, 1, 0, .pop, 0, 0, 0, 99, 0), (67, 1, 0, .aload_n 0, 0, 0, 0, 99, 0), (68, 1, 0, .iconst 0, 0, 0, 0, 99, 0), (69, 3, 3, .putfield 319, 8, 41, 3, 4, 206), (72, 1, 0, .aload_n 0, 0, 0, 0, 99, 0), (73, 1, 0, .iconst 0, 0, 0, 0, 99, 0), (74, 3, 4, .invokevirtual 374, 234, 2, 0, 6, 192), (77, 1, 0, .iload_n 1, 0, 0, 0, 99, 0), (78, 1, 0, .aload_n 0, 0, 0, 0, 99, 0), (79, 3, 3, .getfield 353, 8, 43, 0, 4, 208), (82, 1, 1, .iadd, 0, 0, 0, 99, 0), (83, 1, 0, .istore_n 1, 0, 0, 0, 99, 0), (84, 3, 0, .iinc 2 1, 0, 0, 0, 99, 0), (87, 3, 2, .goto (-75), 0, 0, 0, 99, 0), (90, 1, 0, .aload_n 0, 0, 0, 0, 99, 0), (91, 1, 0, .aload_n 0, 0, 0, 0, 99, 0), (92, 3, 3, .getfield 71, 8, 36, 1, 4, 201), (95, 3, 4, .invokevirtual 313, 222, 2, 0, 6, 173), (98, 1, 0, .iload_n 1, 0, 0, 0, 99, 0), (99, 1, 2, .ireturn, 0, 0, 0, 99, 0)]
def pgX8_canAll : List (Nat × Nat × z_En) := [(0, 1, 0, .iconst 0, 0, 0, 0, 99, 0), (1, 1, 0, .istore_n 2, 0, 0, 0, 99, 0), (2, 1, 0, .iconst 0, 0, 0, 0, 99, 0), (3, 1, 0, .istore_n 3, 0, 0, 0, 99, 0), (4, 1, 0, .iload_n 3, 0, 0, 0, 99, 0), (5, 1, 0, .aload_n 0, 0, 0, 0, 99, 0), (6, 3, 3, .getfield 185, 8, 11, 0, 4, 176), (9, 3, 2, .if_icmp .ge 31, 0, 0, 0, 99, 0), (12, 1, 0, .iload_n 2, 0, 0, 0, 99, 0), (13, 1, 0, .iload_n 1, 0, 0, 0, 99, 0), (14, 1, 0, .aload_n 0, 0, 0, 0, 99, 0), (15, 1, 0, .iload_n 3, 0, 0, 0, 99, 0), (16, 3, 4, .invokevirtual 197, 173, 2, 0, 5, 215), (19, 3, 4, .invokestatic 143, 137, 2, 1, 5, 176), (22, 3, 2, .ifCond .eq 9, 0, 0, 0, 99, 0), (25, 1, 0, .iconst 1, 0, 0, 0, 99, 0), (26, 1, 0, .iload_n 3, 0, 0, 0, 99, 0), (27, 1, 1, .ishl, 0, 0, 0, 99, 0), (28, 3, 2, .goto 4, 0, 0, 0, 99, 0), (31, 1, 0, .iconst 0, 0, 0, 0, 99, 0), (32, 1, 1, .ior, 0, 0, 0, 99, 0), (33, 1, 0, .istore_n 2, 0, 0, 0, 99, 0), (34, 3, 0, .iinc 3 1, 0, 0, 0, 99, 0), (37, 3, 2, .goto (-33), 0, 0, 0, 99, 0), (40, 1, 0, .aload_n 0, 0, 0, 0, 99, 0), (41, 1, 0, .iload_n 2, 0, 0, 0, 99, 0), (42, 3, 4, .invokevirtual 371, 235, 2, 0, 6, 185), (45, 1, 0, .pop, 0, 0, 0, 99, 0), (46, 1, 0, .aload_n 0, 0, 0, 0, 99, 0), (47, 1, 0, .iconst 3, 0, 0, 0, 99, 0), (48, 3, 4, .invokevirtual 374, 234, 2, 0, 6, 192), (51, 1, 0, .aload_n 0, 0, 0, 0, 99, 0), (52, 3, 3, .getfield 353, 8, 43, 0, 4, 208), (55, 3, 2, .ifCond .lt 7, 0, 0, 0, 99, 0), (58, 1, 0, .iconst 1, 0, 0, 0, 99, 0), (59, 3, 2, .goto 4, 0, 0, 0, 99, 0), (62, 1, 0, .iconst 0, 0, 0, 0, 99, 0), (63, 1, 2, .ireturn, 0, 0, 3, 99, 0)]
def pgX8_quarrel : List (Nat × Nat × z_En) := [(0, 1, 0, .aload_n 0, 0, 0, 0, 99, 0), (1, 3, 3, .getfield 185, 8, 11, 0, 4, 176), (4, 2, 0, .bipush 8, 0, 0, 0, 99, 0), (6, 3, 2, .if_icmp .le 6, 0, 0, 0, 99, 0), (9, 2, 0, .bipush (-6), 0, 0, 0, 99, 0), (11, 1, 2, .ireturn, 0, 0, 0, 99, 0), (12, 1, 0, .aload_n 0, 0, 0, 0, 99, 0), (13, 1, 0, .aload_n 0, 0, 0, 0, 99, 0), (14, 3, 3, .getfield 71, 8, 36, 1, 4, 201), (17, 3, 4, .invokevirtual 306, 221, 2, 0, 6, 165), (20, 1, 0, .iconst 1, 0, 0, 0, 99, 0), (21, 1, 0, .aload_n 0, 0, 0, 0, 99, 0), (22, 3, 3, .getfield 182, 8, 10, 0, 4, 175), (25, 1, 1, .ishl, 0, 0, 0, 99, 0), (26, 1, 0, .iconst 1, 0, 0, 0, 99, 0), (27, 1, 1, .isub, 0, 0, 0, 99, 0), (28, 1, 0, .istore_n 1, 0, 0, 0, 99, 0), (29, 1, 0, .aload_n 0, 0, 0, 0, 99, 0), (30, 1, 0, .iload_n 1, 0, 0, 0, 99, 0), (31, 3, 4, .invokevirtual 377, 242, 2, 0, 7, 12), (34, 1, 0, .istore_n 2, 0, 0, 0, 99, 0), (35, 1, 0, .iconst 0, 0, 0, 0, 99, 0), (36, 1, 0, .istore_n 3, 0, 0, 0, 99, 0), (37, 1, 0, .iload_n 3, 0, 0, 0, 99, 0), (38, 1, 0, .aload_n 0, 0, 0, 0, 99, 0), (39, 3, 3, .getfield 182, 8, 10, 0, 4, 175), (42, 3, 2, .if_icmp .ge 39, 0, 0, 0, 99, 0), (45, 1, 0, .iload_n 2, 0, 0, 0, 99, 0), (46, 3, 2, .ifCond .ne 35, 0, 0, 0, 99, 0), (49, 1, 0, .iload_n 1, 0, 0, 0, 99, 0), (50, 1, 0, .aload_n 0, 0, 0, 0, 99, 0), (51, 1, 0, .iload_n 1, 0, 0, 0, 99, 0), (52, 1, 0, .iconst 1, 0, 0, 0, 99, 0), (53, 1, 0, .iload_n 3, 0, 0, 0, 99, 0), (54, 1, 1, .ishl, 0, 0, 0, 99, 0), (55, 1, 0, .iconst (-1), 0, 0, 0, 99, 0), (56, 1, 1, .ixor, 0, 0, 0, 99, 0), (57, 1, 1, .iand, 0, 0, 0, 99, 0), (58, 3, 4, .invokevirtual 377, 242, 2, 0, 7, 12), (61, 3, 2, .ifCond .eq 7, 0, 0, 0, 99, 0), (64, 1, 0, .iconst (-1), 0, 0, 0, 99, 0), (65, 3, 2, .goto 8, 0, 0, 0, 99, 0), (68, 1, 0, .iconst 1, 0, 0, 0, 99, 0), (69, 1, 0, .iload_n 3, 0, 0, 0, 99, 0), (70, 1, 1, .ishl, 0, 0, 0, 99, 0), (71, 1, 0, .iconst (-1), 0, 0, 0, 99, 0), (72, 1, 1, .ixor, 0, 0, 0, 99, 0), (73, 1, 1, .iand, 0, 0, 0, 99, 0), (74, 1, 0, .istore_n 1, 0, 0, 0, 99, 0), (75, 3, 0, .iinc 3 1, 0, 0, 0, 99, 0), (78, 3, 2, .goto (-41), 0, 0, 0, 99, 0), (81, 1, 0, .aload_n 0, 0, 0, 0, 99, 0), (82, 1, 0, .aload_n 0, 0, 0, 0, 99, 0), (83, 3, 3, .getfield 71, 8, 36, 1, 4, 201), (86, 3, 4, .invokevirtual 313, 222, 2, 0, 6, 173), (89, 1, 0, .iload_n 2, 0, 0, 0, 99, 0), (90, 3, 2, .ifCond .eq 8, 0, 0, 0, 99, 0), (93, 2, 0, .bipush (-9), 0, 0, 0, 99, 0), (95, 3, 2, .goto 4, 0, 0, 0, 99, 0), (98, 1, 0, .iload_n 1, 0, 0, 0, 99, 0), (99, 1, 2, .ireturn, 0, 0, 0, 99, 0)]
def pgX8_twice : List (Nat × Nat × z_En) := [(0, 1, 0, .aload_n 0, 0, 0, 0, 99, 0), (1, 3, 3, .getfield 185, 8, 11, 0, 4, 176), (4, 2, 0, .bipush 8, 0, 0, 0, 99, 0), (6, 3, 2, .if_icmp .le 6, 0, 0, 0, 99, 0), (9, 2, 0, .bipush (-6), 0, 0, 0, 99, 0), (11, 1, 2, .ireturn, 0, 0, 0, 99, 0), (12, 1, 0, .aload_n 0, 0, 0, 0, 99, 0), (13, 1, 0, .aload_n 0, 0, 0, 0, 99, 0), (14, 3, 3, .getfield 71, 8, 36, 1, 4, 201), (17, 3, 4, .invokevirtual 306, 221, 2, 0, 6, 165), (20, 2, 0, .bipush (-9), 0, 0, 0, 99, 0), (22, 1, 0, .istore_n 1, 0, 0, 0, 99, 0), (23, 1, 0, .iconst 0, 0, 0, 0, 99, 0), (24, 1, 0, .istore_n 2, 0, 0, 0, 99, 0), (25, 1, 0, .iconst 0, 0, 0, 0, 99, 0), (26, 1, 0, .istore_n 3, 0, 0, 0, 99, 0), (27, 1, 0, .iload_n 3, 0, 0, 0, 99, 0), (28, 1, 0, .aload_n 0, 0, 0, 0, 99, 0), (29, 3, 3, .getfield 179, 8, 9, 0, 4, 174), (32, 3, 2, .if_icmp .ge 71, 0, 0, 0, 99, 0), (35, 1, 0, .aload_n 0, 0, 0, 0, 99, 0), (36, 1, 0, .iload_n 3, 0, 0, 0, 99, 0), (37, 3, 4, .invokevirtual 248, 176, 2, 0, 6, 63), (40, 1, 0, .iconst 1, 0, 0, 0, 99, 0), (41, 3, 2, .if_icmp .ne 56, 0, 0, 0, 99, 0), (44, 1, 0, .aload_n 0, 0, 0, 0, 99, 0), (45, 3, 3, .getfield 29, 8, 14, 1, 4, 179), (48, 1, 0, .iconst 3, 0, 0, 0, 99, 0), (49, 1, 0, .iload_n 3, 0, 0, 0, 99, 0), (50, 1, 1, .imul, 0, 0, 0, 99, 0), (51, 1, 0, .iconst 2, 0, 0, 0, 99, 0), (52, 1, 3, .iastore, 0, 0, 0, 99, 0), (53, 1, 0, .aload_n 0, 0, 0, 0, 99, 0), (54, 1, 0, .aload_n 0, 0, 0, 0, 99, 0), (55, 3, 4, .invokevirtual 368, 236, 1, 0, 6, 181), (58, 3, 4, .invokevirtual 371, 235, 2, 0, 6, 185), (61, 1, 0, .pop, 0, 0, 0, 99, 0), (62, 1, 0, .aload_n 0, 0, 0, 0, 99, 0), (63, 1, 0, .iconst 0, 0, 0, 0, 99, 0), (64, 3, 4, .invokevirtual 374, 234, 2, 0, 6, 192), (67, 1, 0, .aload_n 0, 0, 0, 0, 99, 0), (68, 3, 3, .getfield 29, 8, 14, 1, 4, 179), (71, 1, 0, .iconst 3, 0, 0, 0, 99, 0), (72, 1, 0, .iload_n 3, 0, 0, 0, 99, 0), (73, 1, 1, .imul, 0, 0, 0, 99, 0), (74, 1, 0, .iconst 1, 0, 0, 0, 99, 0), (75, 1, 3, .iastore, 0, 0, 0, 99, 0), (76, 1, 0, .iload_n 1, 0, 0, 0, 99, 0), (77, 2, 0, .bipush (-9), 0, 0, 0, 99, 0), (79, 3, 2, .if_icmp .eq 11, 0, 0, 0, 99, 0), (82, 1, 0, .aload_n 0, 0, 0, 0, 99, 0), (83, 3, 3, .getfield 353, 8, 43, 0, 4, 208), (86, 1, 0, .iload_n 2, 0, 0, 0, 99, 0), (87, 3, 2, .if_icmp .ge 10, 0, 0, 0, 99, 0), (90, 1, 0, .iload_n 3, 0, 0, 0, 99, 0), (91, 1, 0, .istore_n 1, 0, 0, 0, 99, 0), (92, 1, 0, .aload_n 0, 0, 0, 0, 99, 0), (93, 3, 3, .getfield 353, 8, 43, 0, 4, 208), (96, 1, 0, .istore_n 2, 0, 0, 0, 99, 0), (97, 3, 0, .iinc 3 1, 0, 0, 0, 99, 0), (100, 3, 2, .goto (-73), 0, 0, 0, 99, 0), (103, 1, 0, .aload_n 0, 0, 0, 0, 99, 0), (104, 1, 0, .aload_n 0, 0, 0, 0, 99, 0), (105, 3, 3, .getfield 71, 8, 36, 1, 4, 201), (108, 3, 4, .invokevirtual 313, 222, 2, 0, 6, 173), (111, 1, 0, .iload_n 1, 0, 0, 0, 99, 0), (112, 2, 0, .bipush (-9), 0, 0, 0, 99, 0), (114, 3, 2, .if_icmp .ne 8, 0, 0, 0, 99, 0), (117, 2, 0, .bipush (-9), 0, 0, 0, 99, 0), (119, 3, 2, .goto 9, 0, 0, 0, 99, 0), (122, 1, 0, .aload_n 0, 0, 0, 0, 99, 0), (123, 1, 0, .iload_n 2, 0, 0, 0, 99, 0), (124, 1, 0, .iload_n 1, 0, 0, 0, 99, 0), (125, 3, 4, .invokevirtual 109, 143, 3, 0, 5, 105), (128, 1, 2, .ireturn, 0, 0, 0, 99, 0)]
def pgX8_counted : List (Nat × Nat × z_En) := [(0, 1, 0, .iconst 0, 0, 0, 0, 99, 0), (1, 1, 0, .istore_n 2, 0, 0, 0, 99, 0), (2, 1, 0, .iconst 0, 0, 0, 0, 99, 0), (3, 1, 0, .istore_n 3, 0, 0, 0, 99, 0), (4, 1, 0, .iload_n 3, 0, 0, 0, 99, 0), (5, 1, 0, .aload_n 0, 0, 0, 0, 99, 0), (6, 3, 3, .getfield 185, 8, 11, 0, 4, 176), (9, 3, 2, .if_icmp .ge 30, 0, 0, 0, 99, 0), (12, 1, 0, .iload_n 2, 0, 0, 0, 99, 0), (13, 1, 0, .iload_n 1, 0, 0, 0, 99, 0), (14, 1, 0, .iconst 4, 0, 0, 0, 99, 0), (15, 3, 2, .if_icmp .ne 15, 0, 0, 0, 99, 0), (18, 1, 0, .aload_n 0, 0, 0, 0, 99, 0), (19, 1, 0, .iload_n 3, 0, 0, 0, 99, 0), (20, 3, 4, .invokevirtual 221, 191, 2, 0, 6, 27), (23, 3, 2, .ifCond .eq 7, 0, 0, 0, 99, 0), (26, 1, 0, .iconst 1, 0, 0, 0, 99, 0), (27, 3, 2, .goto 4, 0, 0, 0, 99, 0), (30, 1, 0, .iconst 0, 0, 0, 0, 99, 0), (31, 1, 1, .iadd, 0, 0, 0, 99, 0), (32, 1, 0, .istore_n 2, 0, 0, 0, 99, 0), (33, 3, 0, .iinc 3 1, 0, 0, 0, 99, 0), (36, 3, 2, .goto (-32), 0, 0, 0, 99, 0), (39, 1, 0, .iconst 0, 0, 0, 0, 99, 0), (40, 1, 0, .istore_n 3, 0, 0, 0, 99, 0), (41, 1, 0, .iload_n 3, 0, 0, 0, 99, 0), (42, 2, 0, .bipush 6, 0, 0, 0, 99, 0), (44, 3, 2, .if_icmp .ge 74, 0, 0, 0, 99, 0), (47, 1, 0, .iload_n 2, 0, 0, 0, 99, 0), (48, 1, 0, .iload_n 1, 0, 0, 0, 99, 0), (49, 1, 0, .iconst 5, 0, 0, 0, 99, 0), (50, 3, 2, .if_icmp .ne 12, 0, 0, 0, 99, 0), (53, 1, 0, .aload_n 0, 0, 0, 0, 99, 0), (54, 3, 3, .getfield 62, 8, 33, 1, 4, 198), (57, 1, 0, .iload_n 3, 0, 0, 0, 99, 0), (58, 1, 3, .iaload, 0, 0, 0, 99, 0), (59, 3, 2, .ifCond .gt 23, 0, 0, 0, 99, 0), (62, 1, 0, .iload_n 1, 0, 0, 0, 99, 0), (63, 2, 0, .bipush 6, 0, 0, 0, 99, 0), (65, 3, 2, .if_icmp .ne 21, 0, 0, 0, 99, 0), (68, 1, 0, .aload_n 0, 0, 0, 0, 99, 0), (69, 3, 3, .getfield 62, 8, 33, 1, 4, 198), (72, 1, 0, .iload_n 3, 0, 0, 0, 99, 0), (73, 1, 3, .iaload, 0, 0, 0, 99, 0), (74, 1, 0, .iconst 1, 0, 0, 0, 99, 0), (75, 1, 0, .iconst 2, 0, 0, 0, 99, 0), (76, 3, 4, .invokestatic 90, 136, 3, 1, 5, 79), (79, 3, 2, .ifCond .eq 7, 0, 0, 0, 99, 0), (82, 1, 0, .iconst 1, 0, 0, 0, 99, 0), (83, 3, 2, .goto 4, 0, 0, 0, 99, 0), (86, 1, 0, .iconst 0, 0, 0, 0, 99, 0), (87, 1, 1, .iadd, 0, 0, 0, 99, 0), (88, 1, 0, .istore_n 2, 0, 0, 0, 99, 0), (89, 1, 0, .iload_n 2, 0, 0, 0, 99, 0), (90, 1, 0, .iload_n 1, 0, 0, 0, 99, 0), (91, 2, 0, .bipush 7, 0, 0, 0, 99, 0), (93, 3, 2, .if_icmp .ne 16, 0, 0, 0, 99, 0), (96, 1, 0, .aload_n 0, 0, 0, 0, 99, 0), (97, 3, 3, .getfield 13, 8, 3, 1, 4, 168), (100, 1, 0, .iload_n 3, 0, 0, 0, 99, 0), (101, 1, 3, .iaload, 0, 0, 0, 99, 0), (102, 3, 2, .ifCond .lt 7, 0, 0, 0, 99, 0), (105, 1, 0, .iconst 1, 0, 0, 0, 99, 0), (106, 3, 2, .goto 4, 0, 0, 0, 99, 0), (109, 1, 0, .iconst 0, 0, 0, 0, 99, 0), (110, 1, 1, .iadd, 0, 0, 0, 99, 0), (111, 1, 0, .istore_n 2, 0, 0, 0, 99, 0), (112, 3, 0, .iinc 3 1, 0, 0, 0, 99, 0), (115, 3, 2, .goto (-74), 0, 0, 0, 99, 0), (118, 1, 0, .iconst 0, 0, 0, 0, 99, 0), (119, 1, 0, .istore_n 3, 0, 0, 0, 99, 0), (120, 1, 0, .iload_n 3, 0, 0, 0, 99, 0), (121, 1, 0, .iconst 4, 0, 0, 0, 99, 0), (122, 3, 2, .if_icmp .ge 32, 0, 0, 0, 99, 0), (125, 1, 0, .iload_n 2, 0, 0, 0, 99, 0), (126, 1, 0, .iload_n 1, 0, 0, 0, 99, 0), (127, 2, 0, .bipush 8, 0, 0, 0, 99, 0), (129, 3, 2, .if_icmp .ne 16, 0, 0, 0, 99, 0), (132, 1, 0, .aload_n 0, 0, 0, 0, 99, 0), (133, 3, 3, .getfield 22, 8, 6, 1, 4, 171), (136, 1, 0, .iload_n 3, 0, 0, 0, 99, 0), (137, 1, 3, .iaload, 0, 0, 0, 99, 0), (138, 3, 2, .ifCond .lt 7, 0, 0, 0, 99, 0), (141, 1, 0, .iconst 1, 0, 0, 0, 99, 0), (142, 3, 2, .goto 4, 0, 0, 0, 99, 0), (145, 1, 0, .iconst 0, 0, 0, 0, 99, 0), (146, 1, 1, .iadd, 0, 0, 0, 99, 0), (147, 1, 0, .istore_n 2, 0, 0, 0, 99, 0), (148, 3, 0, .iinc 3 1, 0, 0, 0, 99, 0), (151, 3, 2, .goto (-31), 0, 0, 0, 99, 0), (154, 1, 0, .iload_n 1, 0, 0, 0, 99, 0), (155, 3, 2, .ifCond .ne 10, 0, 0, 0, 99, 0), (158, 1, 0, .aload_n 0, 0, 0, 0, 99, 0), (159, 3, 3, .getfield 179, 8, 9, 0, 4, 174), (162, 3, 2, .goto 40, 0, 0, 0, 99, 0), (165, 1, 0, .iload_n 1, 0, 0, 0, 99, 0), (166, 1, 0, .iconst 1, 0, 0, 0, 99, 0), (167, 3, 2, .if_icmp .ne 10, 0, 0, 0, 99, 0), (170, 1, 0, .aload_n 0, 0, 0, 0, 99, 0), (171, 3, 3, .getfield 182, 8, 10, 0, 4, 175), (174, 3, 2, .goto 28, 0, 0, 0, 99, 0), (177, 1, 0, .iload_n 1, 0, 0, 0, 99, 0), (178, 1, 0, .iconst 2, 0, 0, 0, 99, 0), (179, 3, 2, .if_icmp .ne 10, 0, 0, 0, 99, 0), (182, 1, 0, .aload_n 0, 0, 0, 0, 99, 0), (183, 3, 3, .getfield 185, 8, 11, 0, 4, 176), (186, 3, 2, .goto 16, 0, 0, 0, 99, 0), (189, 1, 0, .iload_n 1, 0, 0, 0, 99, 0), (190, 1, 0, .iconst 3, 0, 0, 0, 99, 0), (191, 3, 2, .if_icmp .ne 10, 0, 0, 0, 99, 0), (194, 1, 0, .aload_n 0, 0, 0, 0, 99, 0), (195, 3, 3, .getfield 83, 8, 8, 0, 4, 173), (198, 3, 2, .goto 4, 0, 0, 0, 99, 0), (201, 1, 0, .iload_n 2, 0, 0, 0, 99, 0), (202, 1, 2, .ireturn, 0, 0, 0, 99, 0)]
def pgX8_count : List (Nat × Nat × z_En) := [(0, 1, 0, .iload_n 1, 0, 0, 0, 99, 0), (1, 1, 0, .iconst 0, 0, 0, 0, 99, 0), (2, 2, 0, .bipush 8, 0, 0, 0, 99, 0), (4, 3, 4, .invokestatic 90, 136, 3, 1, 5, 79), (7, 3, 2, .ifCond .eq 11, 0, 0, 0, 99, 0), (10, 1, 0, .aload_n 0, 0, 0, 0, 99, 0), (11, 1, 0, .iload_n 1, 0, 0, 0, 99, 0), (12, 3, 4, .invokevirtual 380, 245, 2, 0, 7, 24), (15, 3, 2, .goto 4, 0, 0, 0, 99, 0), (18, 1, 0, .iconst (-1), 0, 0, 0, 99, 0), (19, 1, 2, .ireturn, 0, 0, 0, 99, 0)]
def pgX8_mix : List (Nat × Nat × z_En) := [(0, 1, 0, .aload_n 0, 0, 0, 0, 99, 0), (1, 3, 0, .ldc2_w 383, 31, 0, 0, 7, 37), (4, 1, 0, .aload_n 0, 0, 0, 0, 99, 0), (5, 3, 3, .getfield 385, 8, 47, 2, 4, 212), (8, 1, 1, .lmul, 0, 0, 0, 99, 0), (9, 1, 0, .lload_n 1, 0, 0, 0, 99, 0), (10, 1, 1, .ladd, 0, 0, 0, 99, 0), (11, 3, 3, .putfield 385, 8, 47, 2, 4, 212), (14, 1, 2, .return_, 0, 0, 0, 99, 0)]
def pgX8_mixHouse : List (Nat × Nat × z_En) := [(0, 1, 0, .iconst 0, 0, 0, 0, 99, 0), (1, 1, 0, .istore_n 1, 0, 0, 0, 99, 0), (2, 1, 0, .iload_n 1, 0, 0, 0, 99, 0), (3, 1, 0, .aload_n 0, 0, 0, 0, 99, 0), (4, 3, 3, .getfield 179, 8, 9, 0, 4, 174), (7, 3, 2, .if_icmp .ge 37, 0, 0, 0, 99, 0), (10, 1, 0, .iconst 0, 0, 0, 0, 99, 0), (11, 1, 0, .istore_n 2, 0, 0, 0, 99, 0), (12, 1, 0, .iload_n 2, 0, 0, 0, 99, 0), (13, 1, 0, .iconst 3, 0, 0, 0, 99, 0), (14, 3, 2, .if_icmp .ge 24, 0, 0, 0, 99, 0), (17, 1, 0, .aload_n 0, 0, 0, 0, 99, 0), (18, 1, 0, .aload_n 0, 0, 0, 0, 99, 0), (19, 3, 3, .getfield 29, 8, 14, 1, 4, 179), (22, 1, 0, .iconst 3, 0, 0, 0, 99, 0), (23, 1, 0, .iload_n 1, 0, 0, 0, 99, 0), (24, 1, 1, .imul, 0, 0, 0, 99, 0), (25, 1, 0, .iload_n 2, 0, 0, 0, 99, 0), (26, 1, 1, .iadd, 0, 0, 0, 99, 0), (27, 1, 3, .iaload, 0, 0, 0, 99, 0), (28, 1, 1, .i2l, 0, 0, 0, 99, 0), (29, 3, 4, .invokevirtual 389, 247, 2, 0, 7, 33), (32, 3, 0, .iinc 2 1, 0, 0, 0, 99, 0), (35, 3, 2, .goto (-23), 0, 0, 0, 99, 0), (38, 3, 0, .iinc 1 1, 0, 0, 0, 99, 0), (41, 3, 2, .goto (-39), 0, 0, 0, 99, 0), (44, 1, 0, .iconst 0, 0, 0, 0, 99, 0), (45, 1, 0, .istore_n 1, 0, 0, 0, 99, 0), (46, 1, 0, .iload_n 1, 0, 0, 0, 99, 0), (47, 1, 0, .aload_n 0, 0, 0, 0, 99, 0), (48, 3, 3, .getfield 182, 8, 10, 0, 4, 175), (51, 3, 2, .if_icmp .ge 33, 0, 0, 0, 99, 0), (54, 1, 0, .iconst 0, 0, 0, 0, 99, 0), (55, 1, 0, .istore_n 2, 0, 0, 0, 99, 0), (56, 1, 0, .iload_n 2, 0, 0, 0, 99, 0), (57, 1, 0, .iconst 4, 0, 0, 0, 99, 0), (58, 3, 2, .if_icmp .ge 20, 0, 0, 0, 99, 0), (61, 1, 0, .aload_n 0, 0, 0, 0, 99, 0), (62, 1, 0, .aload_n 0, 0, 0, 0, 99, 0), (63, 1, 0, .iload_n 1, 0, 0, 0, 99, 0), (64, 1, 0, .iload_n 2, 0, 0, 0, 99, 0), (65, 3, 4, .invokevirtual 203, 184, 3, 0, 5, 211), (68, 1, 1, .i2l, 0, 0, 0, 99, 0), (69, 3, 4, .invokevirtual 389, 247, 2, 0, 7, 33), (72, 3, 0, .iinc 2 1, 0, 0, 0, 99, 0), (75, 3, 2, .goto (-19), 0, 0, 0, 99, 0), (78, 3, 0, .iinc 1 1, 0, 0, 0, 99, 0), (81, 3, 2, .goto (-35), 0, 0, 0, 99, 0), (84, 1, 0, .iconst 0, 0, 0, 0, 99, 0), (85, 1, 0, .istore_n 1, 0, 0, 0, 99, 0), (86, 1, 0, .iload_n 1, 0, 0, 0, 99, 0), (87, 1, 0, .aload_n 0, 0, 0, 0, 99, 0), (88, 3, 3, .getfield 185, 8, 11, 0, 4, 176), (91, 3, 2, .if_icmp .ge 34, 0, 0, 0, 99, 0), (94, 1, 0, .iconst 0, 0, 0, 0, 99, 0), (95, 1, 0, .istore_n 2, 0, 0, 0, 99, 0), (96, 1, 0, .iload_n 2, 0, 0, 0, 99, 0), (97, 2, 0, .bipush 6, 0, 0, 0, 99, 0), (99, 3, 2, .if_icmp .ge 20, 0, 0, 0, 99, 0), (102, 1, 0, .aload_n 0, 0, 0, 0, 99, 0), (103, 1, 0, .aload_n 0, 0, 0, 0, 99, 0), (104, 1, 0, .iload_n 1, 0, 0, 0, 99, 0), (105, 1, 0, .iload_n 2, 0, 0, 0, 99, 0), (106, 3, 4, .invokevirtual 215, 186, 3, 0, 5, 227), (109, 1, 1, .i2l, 0, 0, 0, 99, 0), (110, 3, 4, .invokevirtual 389, 247, 2, 0, 7, 33), (113, 3, 0, .iinc 2 1, 0, 0, 0, 99, 0), (116, 3, 2, .goto (-20), 0, 0, 0, 99, 0), (119, 3, 0, .iinc 1 1, 0, 0, 0, 99, 0), (122, 3, 2, .goto (-36), 0, 0, 0, 99, 0), (125, 1, 0, .iconst 0, 0, 0, 0, 99, 0), (126, 1, 0, .istore_n 1, 0, 0, 0, 99, 0), (127, 1, 0, .iload_n 1, 0, 0, 0, 99, 0), (128, 2, 0, .bipush 6, 0, 0, 0, 99, 0), (130, 3, 2, .if_icmp .ge 81, 0, 0, 0, 99, 0), (133, 1, 0, .aload_n 0, 0, 0, 0, 99, 0), (134, 1, 0, .aload_n 0, 0, 0, 0, 99, 0), (135, 3, 3, .getfield 62, 8, 33, 1, 4, 198), (138, 1, 0, .iload_n 1, 0, 0, 0, 99, 0), (139, 1, 3, .iaload, 0, 0, 0, 99, 0), (140, 3, 2, .ifCond .ne 9, 0, 0, 0, 99, 0), (143, 3, 0, .ldc2_w 393, 1, 1, 0, 7, 42), (146, 3, 2, .goto 10, 0, 0, 0, 99, 0), (149, 1, 0, .aload_n 0, 0, 0, 0, 99, 0), (150, 3, 3, .getfield 62, 8, 33, 1, 4, 198), (153, 1, 0, .iload_n 1, 0, 0, 0, 99, 0), (154, 1, 3, .iaload, 0, 0, 0, 99, 0), (155, 1, 1, .i2l, 0, 0, 0, 99, 0), (156, 3, 4, .invokevirtual 389, 247, 2, 0, 7, 33), (159, 1, 0, .iconst 0, 0, 0, 0, 99, 0), (160, 1, 0, .istore_n 2, 0, 0, 0, 99, 0), (161, 1, 0, .iload_n 2, 0, 0, 0, 99, 0), (162, 1, 0, .aload_n 0, 0, 0, 0, 99, 0), (163, 3, 3, .getfield 182, 8, 10, 0, 4, 175), (166, 3, 2, .if_icmp .ge 39, 0, 0, 0, 99, 0), (169, 1, 0, .aload_n 0, 0, 0, 0, 99, 0), (170, 3, 3, .getfield 62, 8, 33, 1, 4, 198), (173, 1, 0, .iload_n 1, 0, 0, 0, 99, 0), (174, 1, 3, .iaload, 0, 0, 0, 99, 0), (175, 1, 0, .iconst 1, 0, 0, 0, 99, 0), (176, 1, 0, .iconst 2, 0, 0, 0, 99, 0), (177, 3, 4, .invokestatic 90, 136, 3, 1, 5, 79), (180, 3, 2, .ifCond .eq 25, 0, 0, 0, 99, 0), (183, 1, 0, .aload_n 0, 0, 0, 0, 99, 0), (184, 1, 0, .aload_n 0, 0, 0, 0, 99, 0), (185, 3, 3, .getfield 65, 8, 34, 1, 4, 199), (188, 2, 0, .bipush 8, 0, 0, 0, 99, 0), (190, 1, 0, .iload_n 1, 0, 0, 0, 99, 0), (191, 1, 1, .imul, 0, 0, 0, 99, 0), (192, 1, 0, .iload_n 2, 0, 0, 0, 99, 0), (193, 1, 1, .iadd, 0, 0, 0, 99, 0), (194, 1, 3, .iaload, 0, 0, 0, 99, 0), (195, 1, 1, .i2l, 0, 0, 0, 99, 0), (196, 3, 4, .invokevirtual 389, 247, 2, 0, 7, 33), (199, 3, 0, .iinc 2 1, 0, 0, 0, 99, 0), (202, 3, 2, .goto (-41), 0, 0, 0, 99, 0), (205, 3, 0, .iinc 1 1, 0, 0, 0, 99, 0), (208, 3, 2, .goto (-81), 0, 0, 0, 99, 0), (211, 1, 2, .return_, 0, 0, 0, 99, 0)]
def pgX8_digest : List (Nat × Nat × z_En) := [(0, 1, 0, .aload_n 0, 0, 0, 0, 99, 0), (1, 3, 0, .ldc2_w 395, 17, 0, 0, 7, 32), (4, 3, 3, .putfield 385, 8, 47, 2, 4, 212), (7, 1, 0, .iconst 0, 0, 0, 0, 99, 0), (8, 1, 0, .istore_n 1, 0, 0, 0, 99, 0), (9, 1, 0, .iload_n 1, 0, 0, 0, 99, 0), (10, 2, 0, .bipush 9, 0, 0, 0, 99, 0), (12, 3, 2, .if_icmp .ge 19, 0, 0, 0, 99, 0), (15, 1, 0, .aload_n 0, 0, 0, 0, 99, 0), (16, 1, 0, .aload_n 0, 0, 0, 0, 99, 0), (17, 1, 0, .iload_n 1, 0, 0, 0, 99, 0), (18, 3, 4, .invokevirtual 380, 245, 2, 0, 7, 24), (21, 1, 1, .i2l, 0, 0, 0, 99, 0), (22, 3, 4, .invokevirtual 389, 247, 2, 0, 7, 33), (25, 3, 0, .iinc 1 1, 0, 0, 0, 99, 0), (28, 3, 2, .goto (-19), 0, 0, 0, 99, 0), (31, 1, 0, .aload_n 0, 0, 0, 0, 99, 0), (32, 3, 4, .invokevirtual 397, 248, 1, 0, 7, 38), (35, 1, 0, .iconst 0, 0, 0, 0, 99, 0), (36, 1, 0, .istore_n 1, 0, 0, 0, 99, 0), (37, 1, 0, .iload_n 1, 0, 0, 0, 99, 0), (38, 2, 0, .bipush 6, 0, 0, 0, 99, 0), (40, 3, 2, .if_icmp .ge 49, 0, 0, 0, 99, 0), (43, 1, 0, .aload_n 0, 0, 0, 0, 99, 0), (44, 1, 0, .aload_n 0, 0, 0, 0, 99, 0), (45, 3, 3, .getfield 13, 8, 3, 1, 4, 168), (48, 1, 0, .iload_n 1, 0, 0, 0, 99, 0), (49, 1, 3, .iaload, 0, 0, 0, 99, 0), (50, 1, 1, .i2l, 0, 0, 0, 99, 0), (51, 3, 4, .invokevirtual 389, 247, 2, 0, 7, 33), (54, 1, 0, .iconst 0, 0, 0, 0, 99, 0), (55, 1, 0, .istore_n 2, 0, 0, 0, 99, 0), (56, 1, 0, .iload_n 2, 0, 0, 0, 99, 0), (57, 1, 0, .aload_n 0, 0, 0, 0, 99, 0), (58, 3, 3, .getfield 13, 8, 3, 1, 4, 168), (61, 1, 0, .iload_n 1, 0, 0, 0, 99, 0), (62, 1, 3, .iaload, 0, 0, 0, 99, 0), (63, 3, 2, .if_icmp .ge 20, 0, 0, 0, 99, 0), (66, 1, 0, .aload_n 0, 0, 0, 0, 99, 0), (67, 1, 0, .aload_n 0, 0, 0, 0, 99, 0), (68, 1, 0, .iload_n 1, 0, 0, 0, 99, 0), (69, 1, 0, .iload_n 2, 0, 0, 0, 99, 0), (70, 3, 4, .invokevirtual 105, 146, 3, 0, 5, 101), (73, 1, 1, .i2l, 0, 0, 0, 99, 0), (74, 3, 4, .invokevirtual 389, 247, 2, 0, 7, 33), (77, 3, 0, .iinc 2 1, 0, 0, 0, 99, 0), (80, 3, 2, .goto (-24), 0, 0, 0, 99, 0), (83, 3, 0, .iinc 1 1, 0, 0, 0, 99, 0), (86, 3, 2, .goto (-49), 0, 0, 0, 99, 0), (89, 1, 0, .iconst 0, 0, 0, 0, 99, 0), (90, 1, 0, .istore_n 1, 0, 0, 0, 99, 0), (91, 1, 0, .iload_n 1, 0, 0, 0, 99, 0), (92, 1, 0, .iconst 4, 0, 0, 0, 99, 0), (93, 3, 2, .if_icmp .ge 49, 0, 0, 0, 99, 0), (96, 1, 0, .aload_n 0, 0, 0, 0, 99, 0), (97, 1, 0, .aload_n 0, 0, 0, 0, 99, 0), (98, 3, 3, .getfield 22, 8, 6, 1, 4, 171), (101, 1, 0, .iload_n 1, 0, 0, 0, 99, 0), (102, 1, 3, .iaload, 0, 0, 0, 99, 0), (103, 1, 1, .i2l, 0, 0, 0, 99, 0), (104, 3, 4, .invokevirtual 389, 247, 2, 0, 7, 33), (107, 1, 0, .iconst 0, 0, 0, 0, 99, 0), (108, 1, 0, .istore_n 2, 0, 0, 0, 99, 0), (109, 1, 0, .iload_n 2, 0, 0, 0, 99, 0), (110, 1, 0, .aload_n 0, 0, 0, 0, 99, 0), (111, 3, 3, .getfield 22, 8, 6, 1, 4, 171), (114, 1, 0, .iload_n 1, 0, 0, 0, 99, 0), (115, 1, 3, .iaload, 0, 0, 0, 99, 0), (116, 3, 2, .if_icmp .ge 20, 0, 0, 0, 99, 0), (119, 1, 0, .aload_n 0, 0, 0, 0, 99, 0), (120, 1, 0, .aload_n 0, 0, 0, 0, 99, 0), (121, 1, 0, .iload_n 1, 0, 0, 0, 99, 0), (122, 1, 0, .iload_n 2, 0, 0, 0, 99, 0), (123, 3, 4, .invokevirtual 118, 156, 3, 0, 5, 144), (126, 1, 1, .i2l, 0, 0, 0, 99, 0), (127, 3, 4, .invokevirtual 389, 247, 2, 0, 7, 33), (130, 3, 0, .iinc 2 1, 0, 0, 0, 99, 0), (133, 3, 2, .goto (-24), 0, 0, 0, 99, 0), (136, 3, 0, .iinc 1 1, 0, 0, 0, 99, 0), (139, 3, 2, .goto (-48), 0, 0, 0, 99, 0), (142, 1, 0, .aload_n 0, 0, 0, 0, 99, 0), (143, 3, 3, .getfield 385, 8, 47, 2, 4, 212), (146, 1, 2, .lreturn, 0, 0, 0, 99, 0)]
def pgL_law_0 : List (Nat × Nat × z_En) := [(0, 3, 3, .new 9, 7, 0, 0, 1, 11), (3, 1, 0, .dup, 0, 0, 0, 99, 0), (4, 3, 4, .invokespecial 62, 86, 1, 2, 1, 13), (7, 1, 0, .astore_n 1, 0, 0, 0, 99, 0), (8, 3, 3, .new 9, 7, 0, 0, 1, 11), (11, 1, 0, .dup, 0, 0, 0, 99, 0), (12, 3, 4, .invokespecial 62, 86, 1, 2, 1, 13), (15, 1, 0, .astore_n 2, 0, 0, 0, 99, 0), (16, 2, 0, .bipush 64, 0, 0, 0, 99, 0), (18, 2, 3, .newarray .int, 10, 0, 0, 99, 0), (20, 1, 0, .astore_n 3, 0, 0, 0, 99, 0), (21, 2, 0, .bipush 64, 0, 0, 0, 99, 0), (23, 2, 3, .newarray .int, 10, 0, 0, 99, 0), (25, 2, 0, .astore 4, 0, 0, 0, 99, 0), (27, 1, 0, .iconst 2, 0, 0, 0, 99, 0), (28, 1, 0, .aload_n 0, 0, 0, 0, 99, 0), (29, 1, 0, .iconst 0, 0, 0, 0, 99, 0), (30, 3, 4, .invokestatic 19, 251, 2, 1, 3, 166), (33, 1, 0, .iconst 3, 0, 0, 0, 99, 0), (34, 1, 1, .irem, 0, 0, 0, 99, 0), (35, 1, 1, .iadd, 0, 0, 0, 99, 0), (36, 2, 0, .istore 5, 0, 0, 0, 99, 0), (38, 1, 0, .aload_n 0, 0, 0, 0, 99, 0), (39, 2, 0, .bipush 10, 0, 0, 0, 99, 0), (41, 2, 0, .iload 5, 0, 0, 0, 99, 0), (43, 1, 0, .iconst 1, 0, 0, 0, 99, 0), (44, 1, 0, .aload_n 0, 0, 0, 0, 99, 0), (45, 1, 0, .iconst 1, 0, 0, 0, 99, 0), (46, 3, 4, .invokestatic 19, 251, 2, 1, 3, 166), (49, 1, 0, .iconst 4, 0, 0, 0, 99, 0), (50, 1, 1, .irem, 0, 0, 0, 99, 0), (51, 1, 1, .iadd, 0, 0, 0, 99, 0), (52, 2, 0, .bipush 6, 0, 0, 0, 99, 0), (54, 1, 0, .iconst 0, 0, 0, 0, 99, 0), (55, 1, 0, .aload_n 3, 0, 0, 0, 99, 0), (56, 2, 0, .aload 4, 0, 0, 0, 99, 0), (58, 3, 4, .invokestatic 63, 254, 8, 1, 3, 170), (61, 1, 0, .aload_n 1, 0, 0, 0, 99, 0), (62, 1, 0, .aload_n 3, 0, 0, 0, 99, 0), (63, 2, 0, .aload 4, 0, 0, 0, 99, 0), (65, 3, 4, .invokestatic 67, 255, 3, 1, 3, 173), (68, 3, 2, .ifCond .ne 5, 0, 0, 0, 99, 0), (71, 1, 0, .iconst 0, 0, 0, 0, 99, 0), (72, 1, 2, .ireturn, 0, 0, 3, 99, 0), (73, 1, 0, .aload_n 1, 0, 0, 0, 99, 0), (74, 3, 4, .invokevirtual 70, 114, 1, 0, 3, 57), (77, 2, 0, .istore 6, 0, 0, 0, 99, 0), (79, 2, 0, .iload 6, 0, 0, 0, 99, 0), (81, 3, 2, .ifCond .lt 39, 0, 0, 0, 99, 0), (84, 1, 0, .aload_n 1, 0, 0, 0, 99, 0), (85, 3, 4, .invokevirtual 73, 104, 1, 0, 2, 112), (88, 2, 0, .bipush (-9), 0, 0, 0, 99, 0), (90, 3, 2, .if_icmp .ne 30, 0, 0, 0, 99, 0), (93, 1, 0, .aload_n 1, 0, 0, 0, 99, 0), (94, 2, 0, .bipush (-9), 0, 0, 0, 99, 0), (96, 3, 4, .invokevirtual 76, 105, 2, 0, 2, 155), (99, 2, 0, .iload 6, 0, 0, 0, 99, 0), (101, 3, 2, .if_icmp .ne 19, 0, 0, 0, 99, 0), (104, 1, 0, .aload_n 1, 0, 0, 0, 99, 0), (105, 3, 4, .invokevirtual 79, 118, 1, 0, 3, 150)]
def pgL_law_1 : List (Nat × Nat × z_En) := [(108, 2, 0, .iload 6, 0, 0, 0, 99, 0), (110, 3, 2, .if_icmp .gt 10, 0, 0, 0, 99, 0), (113, 1, 0, .aload_n 1, 0, 0, 0, 99, 0), (114, 3, 4, .invokevirtual 82, 116, 1, 0, 3, 142), (117, 3, 2, .ifCond .ne 5, 0, 0, 0, 99, 0), (120, 1, 0, .iconst 0, 0, 0, 0, 99, 0), (121, 1, 2, .ireturn, 0, 0, 3, 99, 0), (122, 1, 0, .iconst 0, 0, 0, 0, 99, 0), (123, 2, 0, .istore 7, 0, 0, 0, 99, 0), (125, 1, 0, .iconst 0, 0, 0, 0, 99, 0), (126, 2, 0, .istore 8, 0, 0, 0, 99, 0), (128, 1, 0, .iconst 0, 0, 0, 0, 99, 0), (129, 2, 0, .istore 9, 0, 0, 0, 99, 0), (131, 2, 0, .iload 9, 0, 0, 0, 99, 0), (133, 1, 0, .aload_n 3, 0, 0, 0, 99, 0), (134, 1, 0, .iconst 1, 0, 0, 0, 99, 0), (135, 1, 3, .iaload, 0, 0, 0, 99, 0), (136, 3, 2, .if_icmp .ge 44, 0, 0, 0, 99, 0), (139, 2, 0, .iload 7, 0, 0, 0, 99, 0), (141, 1, 0, .aload_n 1, 0, 0, 0, 99, 0), (142, 2, 0, .iload 9, 0, 0, 0, 99, 0), (144, 3, 4, .invokevirtual 76, 105, 2, 0, 2, 155), (147, 1, 1, .iadd, 0, 0, 0, 99, 0), (148, 2, 0, .istore 7, 0, 0, 0, 99, 0), (150, 1, 0, .aload_n 1, 0, 0, 0, 99, 0), (151, 2, 0, .iload 9, 0, 0, 0, 99, 0), (153, 3, 4, .invokevirtual 76, 105, 2, 0, 2, 155), (156, 2, 0, .iload 8, 0, 0, 0, 99, 0), (158, 3, 2, .if_icmp .le 12, 0, 0, 0, 99, 0), (161, 1, 0, .aload_n 1, 0, 0, 0, 99, 0), (162, 2, 0, .iload 9, 0, 0, 0, 99, 0), (164, 3, 4, .invokevirtual 76, 105, 2, 0, 2, 155), (167, 3, 2, .goto 5, 0, 0, 0, 99, 0), (170, 2, 0, .iload 8, 0, 0, 0, 99, 0), (172, 2, 0, .istore 8, 0, 0, 0, 99, 0), (174, 3, 0, .iinc 9 1, 0, 0, 0, 99, 0), (177, 3, 2, .goto (-46), 0, 0, 0, 99, 0), (180, 1, 0, .aload_n 1, 0, 0, 0, 99, 0), (181, 3, 4, .invokevirtual 85, 117, 1, 0, 3, 146), (184, 2, 0, .istore 9, 0, 0, 0, 99, 0), (186, 2, 0, .iload 7, 0, 0, 0, 99, 0), (188, 2, 0, .iload 6, 0, 0, 0, 99, 0), (190, 3, 2, .if_icmp .ne 30, 0, 0, 0, 99, 0), (193, 2, 0, .iload 9, 0, 0, 0, 99, 0), (195, 2, 0, .iload 8, 0, 0, 0, 99, 0), (197, 3, 2, .if_icmp .gt 23, 0, 0, 0, 99, 0), (200, 1, 0, .aload_n 1, 0, 0, 0, 99, 0), (201, 3, 4, .invokevirtual 56, 121, 1, 0, 3, 162), (204, 2, 0, .iload 6, 0, 0, 0, 99, 0), (206, 3, 2, .if_icmp .lt 14, 0, 0, 0, 99, 0), (209, 2, 0, .iload 9, 0, 0, 0, 99, 0), (211, 1, 0, .aload_n 3, 0, 0, 0, 99, 0), (212, 1, 0, .iconst 1, 0, 0, 0, 99, 0), (213, 1, 3, .iaload, 0, 0, 0, 99, 0), (214, 1, 1, .imul, 0, 0, 0, 99, 0), (215, 2, 0, .iload 6, 0, 0, 0, 99, 0), (217, 3, 2, .if_icmp .ge 5, 0, 0, 0, 99, 0), (220, 1, 0, .iconst 0, 0, 0, 0, 99, 0), (221, 1, 2, .ireturn, 0, 0, 3, 99, 0), (222, 1, 0, .aload_n 1, 0, 0, 0, 99, 0)]
def pgL_law_2 : List (Nat × Nat × z_En) := [(223, 1, 0, .iconst 0, 0, 0, 0, 99, 0), (224, 3, 4, .invokevirtual 88, 108, 2, 0, 2, 176), (227, 1, 0, .aload_n 3, 0, 0, 0, 99, 0), (228, 1, 0, .iconst 2, 0, 0, 0, 99, 0), (229, 1, 3, .iaload, 0, 0, 0, 99, 0), (230, 3, 2, .if_icmp .eq 5, 0, 0, 0, 99, 0), (233, 1, 0, .iconst 0, 0, 0, 0, 99, 0), (234, 1, 2, .ireturn, 0, 0, 3, 99, 0), (235, 1, 0, .iconst 0, 0, 0, 0, 99, 0), (236, 2, 0, .istore 10, 0, 0, 0, 99, 0), (238, 2, 0, .iload 10, 0, 0, 0, 99, 0), (240, 2, 0, .bipush 40, 0, 0, 0, 99, 0), (242, 3, 2, .if_icmp .ge 52, 0, 0, 0, 99, 0), (245, 1, 0, .aload_n 1, 0, 0, 0, 99, 0), (246, 2, 0, .iload 10, 0, 0, 0, 99, 0), (248, 3, 4, .invokevirtual 91, 115, 2, 0, 3, 121), (251, 2, 0, .iload 6, 0, 0, 0, 99, 0), (253, 3, 2, .if_icmp .ne 21, 0, 0, 0, 99, 0), (256, 1, 0, .aload_n 1, 0, 0, 0, 99, 0), (257, 3, 4, .invokevirtual 73, 104, 1, 0, 2, 112), (260, 2, 0, .bipush (-9), 0, 0, 0, 99, 0), (262, 3, 2, .if_icmp .ne 12, 0, 0, 0, 99, 0), (265, 1, 0, .aload_n 1, 0, 0, 0, 99, 0), (266, 1, 0, .iconst 0, 0, 0, 0, 99, 0), (267, 3, 4, .invokevirtual 94, 109, 2, 0, 2, 191), (270, 1, 0, .iconst 1, 0, 0, 0, 99, 0), (271, 3, 2, .if_icmp .eq 5, 0, 0, 0, 99, 0), (274, 1, 0, .iconst 0, 0, 0, 0, 99, 0), (275, 1, 2, .ireturn, 0, 0, 3, 99, 0), (276, 2, 0, .iload 10, 0, 0, 0, 99, 0), (278, 1, 0, .iconst 1, 0, 0, 0, 99, 0), (279, 1, 0, .aload_n 0, 0, 0, 0, 99, 0), (280, 1, 0, .iconst 2, 0, 0, 0, 99, 0), (281, 3, 4, .invokestatic 19, 251, 2, 1, 3, 166), (284, 2, 0, .bipush 7, 0, 0, 0, 99, 0), (286, 1, 1, .irem, 0, 0, 0, 99, 0), (287, 1, 1, .iadd, 0, 0, 0, 99, 0), (288, 1, 1, .iadd, 0, 0, 0, 99, 0), (289, 2, 0, .istore 10, 0, 0, 0, 99, 0), (291, 3, 2, .goto (-53), 0, 0, 0, 99, 0), (294, 1, 0, .aload_n 1, 0, 0, 0, 99, 0), (295, 1, 0, .iconst 1, 0, 0, 0, 99, 0), (296, 3, 4, .invokevirtual 97, 113, 2, 0, 3, 39), (299, 2, 0, .istore 10, 0, 0, 0, 99, 0), (301, 2, 0, .iload 10, 0, 0, 0, 99, 0), (303, 2, 0, .iload 6, 0, 0, 0, 99, 0), (305, 3, 2, .if_icmp .ge 5, 0, 0, 0, 99, 0), (308, 1, 0, .iconst 0, 0, 0, 0, 99, 0), (309, 1, 2, .ireturn, 0, 0, 3, 99, 0), (310, 1, 0, .iconst 1, 0, 0, 0, 99, 0), (311, 2, 0, .istore 11, 0, 0, 0, 99, 0), (313, 2, 0, .iload 11, 0, 0, 0, 99, 0), (315, 2, 0, .bipush 6, 0, 0, 0, 99, 0), (317, 3, 2, .if_icmp .ge 108, 0, 0, 0, 99, 0), (320, 1, 0, .aload_n 1, 0, 0, 0, 99, 0), (321, 2, 0, .iload 11, 0, 0, 0, 99, 0), (323, 2, 0, .iload 11, 0, 0, 0, 99, 0), (325, 1, 0, .iconst 1, 0, 0, 0, 99, 0), (326, 3, 4, .invokevirtual 100, 110, 4, 0, 2, 210), (329, 1, 0, .iconst 1, 0, 0, 0, 99, 0)]
def pgL_law_3 : List (Nat × Nat × z_En) := [(330, 3, 2, .if_icmp .eq 5, 0, 0, 0, 99, 0), (333, 1, 0, .iconst 0, 0, 0, 0, 99, 0), (334, 1, 2, .ireturn, 0, 0, 3, 99, 0), (335, 1, 0, .aload_n 1, 0, 0, 0, 99, 0), (336, 2, 0, .iload 11, 0, 0, 0, 99, 0), (338, 3, 4, .invokevirtual 103, 112, 2, 0, 2, 218), (341, 2, 0, .istore 12, 0, 0, 0, 99, 0), (343, 2, 0, .iload 12, 0, 0, 0, 99, 0), (345, 2, 0, .iload 6, 0, 0, 0, 99, 0), (347, 3, 2, .if_icmp .lt 36, 0, 0, 0, 99, 0), (350, 2, 0, .iload 11, 0, 0, 0, 99, 0), (352, 1, 0, .iconst 1, 0, 0, 0, 99, 0), (353, 3, 2, .if_icmp .ne 10, 0, 0, 0, 99, 0), (356, 2, 0, .iload 12, 0, 0, 0, 99, 0), (358, 2, 0, .iload 10, 0, 0, 0, 99, 0), (360, 3, 2, .if_icmp .ne 23, 0, 0, 0, 99, 0), (363, 1, 0, .aload_n 1, 0, 0, 0, 99, 0), (364, 3, 4, .invokevirtual 73, 104, 1, 0, 2, 112), (367, 2, 0, .bipush (-9), 0, 0, 0, 99, 0), (369, 3, 2, .if_icmp .ne 14, 0, 0, 0, 99, 0), (372, 1, 0, .aload_n 1, 0, 0, 0, 99, 0), (373, 2, 0, .bipush (-9), 0, 0, 0, 99, 0), (375, 3, 4, .invokevirtual 76, 105, 2, 0, 2, 155), (378, 2, 0, .iload 12, 0, 0, 0, 99, 0), (380, 3, 2, .if_icmp .eq 5, 0, 0, 0, 99, 0), (383, 1, 0, .iconst 0, 0, 0, 0, 99, 0), (384, 1, 2, .ireturn, 0, 0, 3, 99, 0), (385, 1, 0, .aload_n 0, 0, 0, 0, 99, 0), (386, 1, 0, .iconst 3, 0, 0, 0, 99, 0), (387, 3, 4, .invokestatic 19, 251, 2, 1, 3, 166), (390, 2, 0, .bipush 30, 0, 0, 0, 99, 0), (392, 1, 1, .irem, 0, 0, 0, 99, 0), (393, 2, 0, .istore 13, 0, 0, 0, 99, 0), (395, 1, 0, .aload_n 1, 0, 0, 0, 99, 0), (396, 2, 0, .iload 13, 0, 0, 0, 99, 0), (398, 3, 4, .invokevirtual 91, 115, 2, 0, 3, 121), (401, 2, 0, .istore 14, 0, 0, 0, 99, 0), (403, 2, 0, .iload 14, 0, 0, 0, 99, 0), (405, 2, 0, .iload 12, 0, 0, 0, 99, 0), (407, 3, 2, .if_icmp .gt 10, 0, 0, 0, 99, 0), (410, 2, 0, .iload 14, 0, 0, 0, 99, 0), (412, 2, 0, .iload 6, 0, 0, 0, 99, 0), (414, 3, 2, .if_icmp .ge 5, 0, 0, 0, 99, 0), (417, 1, 0, .iconst 0, 0, 0, 0, 99, 0), (418, 1, 2, .ireturn, 0, 0, 3, 99, 0), (419, 3, 0, .iinc 11 1, 0, 0, 0, 99, 0), (422, 3, 2, .goto (-109), 0, 0, 0, 99, 0), (425, 1, 0, .aload_n 1, 0, 0, 0, 99, 0), (426, 3, 4, .invokevirtual 82, 116, 1, 0, 3, 142), (429, 2, 0, .istore 11, 0, 0, 0, 99, 0), (431, 1, 0, .aload_n 1, 0, 0, 0, 99, 0), (432, 3, 4, .invokevirtual 106, 119, 1, 0, 3, 154), (435, 2, 0, .istore 12, 0, 0, 0, 99, 0), (437, 2, 0, .iload 11, 0, 0, 0, 99, 0), (439, 3, 2, .ifCond .lt 7, 0, 0, 0, 99, 0), (442, 1, 0, .iconst 1, 0, 0, 0, 99, 0), (443, 3, 2, .goto 4, 0, 0, 0, 99, 0), (446, 1, 0, .iconst 0, 0, 0, 0, 99, 0), (447, 2, 0, .iload 12, 0, 0, 0, 99, 0), (449, 2, 0, .bipush (-9), 0, 0, 0, 99, 0)]
def pgL_law_4 : List (Nat × Nat × z_En) := [(451, 3, 2, .if_icmp .ne 7, 0, 0, 0, 99, 0), (454, 1, 0, .iconst 1, 0, 0, 0, 99, 0), (455, 3, 2, .goto 4, 0, 0, 0, 99, 0), (458, 1, 0, .iconst 0, 0, 0, 0, 99, 0), (459, 3, 2, .if_icmp .ne 8, 0, 0, 0, 99, 0), (462, 2, 0, .iload 12, 0, 0, 0, 99, 0), (464, 3, 2, .ifCond .ne 5, 0, 0, 0, 99, 0), (467, 1, 0, .iconst 0, 0, 0, 0, 99, 0), (468, 1, 2, .ireturn, 0, 0, 3, 99, 0), (469, 2, 0, .bipush 64, 0, 0, 0, 99, 0), (471, 2, 3, .newarray .int, 10, 0, 0, 99, 0), (473, 2, 0, .astore 13, 0, 0, 0, 99, 0), (475, 2, 0, .bipush 64, 0, 0, 0, 99, 0), (477, 2, 3, .newarray .int, 10, 0, 0, 99, 0), (479, 2, 0, .astore 14, 0, 0, 0, 99, 0), (481, 1, 0, .iconst 0, 0, 0, 0, 99, 0), (482, 2, 0, .istore 15, 0, 0, 0, 99, 0), (484, 2, 0, .iload 15, 0, 0, 0, 99, 0), (486, 2, 0, .bipush 64, 0, 0, 0, 99, 0), (488, 3, 2, .if_icmp .ge 28, 0, 0, 0, 99, 0), (491, 2, 0, .aload 13, 0, 0, 0, 99, 0), (493, 2, 0, .iload 15, 0, 0, 0, 99, 0), (495, 1, 0, .aload_n 3, 0, 0, 0, 99, 0), (496, 2, 0, .iload 15, 0, 0, 0, 99, 0), (498, 1, 3, .iaload, 0, 0, 0, 99, 0), (499, 1, 3, .iastore, 0, 0, 0, 99, 0), (500, 2, 0, .aload 14, 0, 0, 0, 99, 0), (502, 2, 0, .iload 15, 0, 0, 0, 99, 0), (504, 2, 0, .aload 4, 0, 0, 0, 99, 0), (506, 2, 0, .iload 15, 0, 0, 0, 99, 0), (508, 1, 3, .iaload, 0, 0, 0, 99, 0), (509, 1, 3, .iastore, 0, 0, 0, 99, 0), (510, 3, 0, .iinc 15 1, 0, 0, 0, 99, 0), (513, 3, 2, .goto (-29), 0, 0, 0, 99, 0), (516, 1, 0, .iconst 0, 0, 0, 0, 99, 0), (517, 2, 0, .istore 15, 0, 0, 0, 99, 0), (519, 2, 0, .iload 15, 0, 0, 0, 99, 0), (521, 2, 0, .iload 5, 0, 0, 0, 99, 0), (523, 3, 2, .if_icmp .ge 54, 0, 0, 0, 99, 0), (526, 1, 0, .iconst 0, 0, 0, 0, 99, 0), (527, 2, 0, .istore 16, 0, 0, 0, 99, 0), (529, 2, 0, .iload 16, 0, 0, 0, 99, 0), (531, 1, 0, .iconst 3, 0, 0, 0, 99, 0), (532, 3, 2, .if_icmp .ge 39, 0, 0, 0, 99, 0), (535, 2, 0, .aload 13, 0, 0, 0, 99, 0), (537, 2, 0, .bipush 8, 0, 0, 0, 99, 0), (539, 1, 0, .iconst 3, 0, 0, 0, 99, 0), (540, 2, 0, .iload 15, 0, 0, 0, 99, 0), (542, 1, 1, .imul, 0, 0, 0, 99, 0), (543, 1, 1, .iadd, 0, 0, 0, 99, 0), (544, 2, 0, .iload 16, 0, 0, 0, 99, 0), (546, 1, 1, .iadd, 0, 0, 0, 99, 0), (547, 1, 0, .aload_n 3, 0, 0, 0, 99, 0), (548, 2, 0, .bipush 8, 0, 0, 0, 99, 0), (550, 1, 0, .iconst 3, 0, 0, 0, 99, 0), (551, 2, 0, .iload 5, 0, 0, 0, 99, 0), (553, 1, 0, .iconst 1, 0, 0, 0, 99, 0), (554, 1, 1, .isub, 0, 0, 0, 99, 0), (555, 2, 0, .iload 15, 0, 0, 0, 99, 0), (557, 1, 1, .isub, 0, 0, 0, 99, 0)]
def pgL_law_5 : List (Nat × Nat × z_En) := [(558, 1, 1, .imul, 0, 0, 0, 99, 0), (559, 1, 1, .iadd, 0, 0, 0, 99, 0), (560, 2, 0, .iload 16, 0, 0, 0, 99, 0), (562, 1, 1, .iadd, 0, 0, 0, 99, 0), (563, 1, 3, .iaload, 0, 0, 0, 99, 0), (564, 1, 3, .iastore, 0, 0, 0, 99, 0), (565, 3, 0, .iinc 16 1, 0, 0, 0, 99, 0), (568, 3, 2, .goto (-39), 0, 0, 0, 99, 0), (571, 3, 0, .iinc 15 1, 0, 0, 0, 99, 0), (574, 3, 2, .goto (-55), 0, 0, 0, 99, 0), (577, 1, 0, .iconst 0, 0, 0, 0, 99, 0), (578, 2, 0, .istore 15, 0, 0, 0, 99, 0), (580, 2, 0, .iload 15, 0, 0, 0, 99, 0), (582, 1, 0, .aload_n 3, 0, 0, 0, 99, 0), (583, 1, 0, .iconst 2, 0, 0, 0, 99, 0), (584, 1, 3, .iaload, 0, 0, 0, 99, 0), (585, 3, 2, .if_icmp .ge 32, 0, 0, 0, 99, 0), (588, 2, 0, .aload 14, 0, 0, 0, 99, 0), (590, 1, 0, .iconst 4, 0, 0, 0, 99, 0), (591, 2, 0, .iload 15, 0, 0, 0, 99, 0), (593, 1, 1, .imul, 0, 0, 0, 99, 0), (594, 1, 0, .iconst 1, 0, 0, 0, 99, 0), (595, 1, 1, .iadd, 0, 0, 0, 99, 0), (596, 2, 0, .iload 5, 0, 0, 0, 99, 0), (598, 1, 0, .iconst 1, 0, 0, 0, 99, 0), (599, 1, 1, .isub, 0, 0, 0, 99, 0), (600, 2, 0, .aload 4, 0, 0, 0, 99, 0), (602, 1, 0, .iconst 4, 0, 0, 0, 99, 0), (603, 2, 0, .iload 15, 0, 0, 0, 99, 0), (605, 1, 1, .imul, 0, 0, 0, 99, 0), (606, 1, 0, .iconst 1, 0, 0, 0, 99, 0), (607, 1, 1, .iadd, 0, 0, 0, 99, 0), (608, 1, 3, .iaload, 0, 0, 0, 99, 0), (609, 1, 1, .isub, 0, 0, 0, 99, 0), (610, 1, 3, .iastore, 0, 0, 0, 99, 0), (611, 3, 0, .iinc 15 1, 0, 0, 0, 99, 0), (614, 3, 2, .goto (-34), 0, 0, 0, 99, 0), (617, 1, 0, .iconst 0, 0, 0, 0, 99, 0), (618, 2, 0, .istore 15, 0, 0, 0, 99, 0), (620, 2, 0, .iload 15, 0, 0, 0, 99, 0), (622, 1, 0, .aload_n 3, 0, 0, 0, 99, 0), (623, 1, 0, .iconst 5, 0, 0, 0, 99, 0), (624, 1, 3, .iaload, 0, 0, 0, 99, 0), (625, 3, 2, .if_icmp .ge 33, 0, 0, 0, 99, 0), (628, 2, 0, .aload 13, 0, 0, 0, 99, 0), (630, 2, 0, .bipush 40, 0, 0, 0, 99, 0), (632, 1, 0, .iconst 3, 0, 0, 0, 99, 0), (633, 2, 0, .iload 15, 0, 0, 0, 99, 0), (635, 1, 1, .imul, 0, 0, 0, 99, 0), (636, 1, 1, .iadd, 0, 0, 0, 99, 0), (637, 2, 0, .iload 5, 0, 0, 0, 99, 0), (639, 1, 0, .iconst 1, 0, 0, 0, 99, 0), (640, 1, 1, .isub, 0, 0, 0, 99, 0), (641, 1, 0, .aload_n 3, 0, 0, 0, 99, 0), (642, 2, 0, .bipush 40, 0, 0, 0, 99, 0), (644, 1, 0, .iconst 3, 0, 0, 0, 99, 0), (645, 2, 0, .iload 15, 0, 0, 0, 99, 0), (647, 1, 1, .imul, 0, 0, 0, 99, 0), (648, 1, 1, .iadd, 0, 0, 0, 99, 0), (649, 1, 3, .iaload, 0, 0, 0, 99, 0)]
def pgL_law_6 : List (Nat × Nat × z_En) := [(650, 1, 1, .isub, 0, 0, 0, 99, 0), (651, 1, 3, .iastore, 0, 0, 0, 99, 0), (652, 3, 0, .iinc 15 1, 0, 0, 0, 99, 0), (655, 3, 2, .goto (-35), 0, 0, 0, 99, 0), (658, 1, 0, .aload_n 2, 0, 0, 0, 99, 0), (659, 2, 0, .aload 13, 0, 0, 0, 99, 0), (661, 2, 0, .aload 14, 0, 0, 0, 99, 0), (663, 3, 4, .invokestatic 67, 255, 3, 1, 3, 173), (666, 3, 2, .ifCond .eq 60, 0, 0, 0, 99, 0), (669, 1, 0, .aload_n 2, 0, 0, 0, 99, 0), (670, 3, 4, .invokevirtual 70, 114, 1, 0, 3, 57), (673, 2, 0, .iload 6, 0, 0, 0, 99, 0), (675, 3, 2, .if_icmp .ne 51, 0, 0, 0, 99, 0), (678, 1, 0, .aload_n 2, 0, 0, 0, 99, 0), (679, 3, 4, .invokevirtual 82, 116, 1, 0, 3, 142), (682, 2, 0, .iload 11, 0, 0, 0, 99, 0), (684, 3, 2, .if_icmp .ne 42, 0, 0, 0, 99, 0), (687, 1, 0, .aload_n 2, 0, 0, 0, 99, 0), (688, 3, 4, .invokevirtual 85, 117, 1, 0, 3, 146), (691, 2, 0, .iload 9, 0, 0, 0, 99, 0), (693, 3, 2, .if_icmp .ne 33, 0, 0, 0, 99, 0), (696, 1, 0, .aload_n 2, 0, 0, 0, 99, 0), (697, 3, 4, .invokevirtual 79, 118, 1, 0, 3, 150), (700, 1, 0, .aload_n 1, 0, 0, 0, 99, 0), (701, 3, 4, .invokevirtual 79, 118, 1, 0, 3, 150), (704, 3, 2, .if_icmp .ne 22, 0, 0, 0, 99, 0), (707, 1, 0, .aload_n 2, 0, 0, 0, 99, 0), (708, 3, 4, .invokevirtual 106, 119, 1, 0, 3, 154), (711, 2, 0, .iload 12, 0, 0, 0, 99, 0), (713, 3, 2, .if_icmp .ne 13, 0, 0, 0, 99, 0), (716, 1, 0, .aload_n 2, 0, 0, 0, 99, 0), (717, 1, 0, .iconst 0, 0, 0, 0, 99, 0), (718, 3, 4, .invokevirtual 97, 113, 2, 0, 3, 39), (721, 2, 0, .iload 10, 0, 0, 0, 99, 0), (723, 3, 2, .if_icmp .eq 5, 0, 0, 0, 99, 0), (726, 1, 0, .iconst 0, 0, 0, 0, 99, 0), (727, 1, 2, .ireturn, 0, 0, 3, 99, 0), (728, 1, 0, .aload_n 0, 0, 0, 0, 99, 0), (729, 1, 0, .iconst 4, 0, 0, 0, 99, 0), (730, 3, 4, .invokestatic 19, 251, 2, 1, 3, 166), (733, 2, 0, .iload 5, 0, 0, 0, 99, 0), (735, 1, 1, .irem, 0, 0, 0, 99, 0), (736, 2, 0, .istore 15, 0, 0, 0, 99, 0), (738, 1, 0, .aload_n 0, 0, 0, 0, 99, 0), (739, 1, 0, .iconst 5, 0, 0, 0, 99, 0), (740, 3, 4, .invokestatic 19, 251, 2, 1, 3, 166), (743, 1, 0, .aload_n 3, 0, 0, 0, 99, 0), (744, 1, 0, .iconst 1, 0, 0, 0, 99, 0), (745, 1, 3, .iaload, 0, 0, 0, 99, 0), (746, 1, 1, .irem, 0, 0, 0, 99, 0), (747, 2, 0, .istore 16, 0, 0, 0, 99, 0), (749, 1, 0, .aload_n 1, 0, 0, 0, 99, 0), (750, 3, 4, .invokevirtual 79, 118, 1, 0, 3, 150), (753, 2, 0, .istore 17, 0, 0, 0, 99, 0), (755, 1, 0, .aload_n 1, 0, 0, 0, 99, 0), (756, 2, 0, .iload 15, 0, 0, 0, 99, 0), (758, 1, 0, .iconst 2, 0, 0, 0, 99, 0), (759, 3, 4, .invokevirtual 109, 100, 3, 0, 2, 96), (762, 1, 0, .aload_n 3, 0, 0, 0, 99, 0), (763, 2, 0, .bipush 8, 0, 0, 0, 99, 0)]
def pgL_law_7 : List (Nat × Nat × z_En) := [(765, 1, 0, .iconst 3, 0, 0, 0, 99, 0), (766, 2, 0, .iload 15, 0, 0, 0, 99, 0), (768, 1, 1, .imul, 0, 0, 0, 99, 0), (769, 1, 1, .iadd, 0, 0, 0, 99, 0), (770, 1, 3, .iaload, 0, 0, 0, 99, 0), (771, 3, 2, .if_icmp .ne 12, 0, 0, 0, 99, 0), (774, 1, 0, .aload_n 1, 0, 0, 0, 99, 0), (775, 3, 4, .invokevirtual 70, 114, 1, 0, 3, 57), (778, 2, 0, .iload 6, 0, 0, 0, 99, 0), (780, 3, 2, .if_icmp .le 5, 0, 0, 0, 99, 0), (783, 1, 0, .iconst 0, 0, 0, 0, 99, 0), (784, 1, 2, .ireturn, 0, 0, 3, 99, 0), (785, 1, 0, .aload_n 1, 0, 0, 0, 99, 0), (786, 2, 0, .bipush (-9), 0, 0, 0, 99, 0), (788, 3, 4, .invokevirtual 76, 105, 2, 0, 2, 155), (791, 2, 0, .istore 18, 0, 0, 0, 99, 0), (793, 1, 0, .aload_n 1, 0, 0, 0, 99, 0), (794, 3, 4, .invokevirtual 79, 118, 1, 0, 3, 150), (797, 2, 0, .iload 17, 0, 0, 0, 99, 0), (799, 3, 2, .if_icmp .gt 62, 0, 0, 0, 99, 0), (802, 1, 0, .aload_n 1, 0, 0, 0, 99, 0), (803, 2, 0, .iload 16, 0, 0, 0, 99, 0), (805, 1, 0, .aload_n 3, 0, 0, 0, 99, 0), (806, 2, 0, .bipush 20, 0, 0, 0, 99, 0), (808, 1, 0, .iconst 3, 0, 0, 0, 99, 0), (809, 2, 0, .iload 16, 0, 0, 0, 99, 0), (811, 1, 1, .imul, 0, 0, 0, 99, 0), (812, 1, 1, .iadd, 0, 0, 0, 99, 0), (813, 1, 3, .iaload, 0, 0, 0, 99, 0), (814, 2, 0, .bipush 60, 0, 0, 0, 99, 0), (816, 3, 4, .invokevirtual 112, 102, 4, 0, 2, 104), (819, 1, 0, .iconst 1, 0, 0, 0, 99, 0), (820, 3, 2, .if_icmp .ne 41, 0, 0, 0, 99, 0), (823, 1, 0, .aload_n 1, 0, 0, 0, 99, 0), (824, 3, 4, .invokevirtual 70, 114, 1, 0, 3, 57), (827, 2, 0, .iload 18, 0, 0, 0, 99, 0), (829, 3, 2, .if_icmp .gt 32, 0, 0, 0, 99, 0), (832, 2, 0, .iload 12, 0, 0, 0, 99, 0), (834, 2, 0, .bipush (-9), 0, 0, 0, 99, 0), (836, 3, 2, .if_icmp .ne 12, 0, 0, 0, 99, 0), (839, 1, 0, .aload_n 1, 0, 0, 0, 99, 0), (840, 3, 4, .invokevirtual 106, 119, 1, 0, 3, 154), (843, 2, 0, .bipush (-9), 0, 0, 0, 99, 0), (845, 3, 2, .if_icmp .ne 16, 0, 0, 0, 99, 0), (848, 1, 0, .aload_n 1, 0, 0, 0, 99, 0), (849, 3, 4, .invokevirtual 85, 117, 1, 0, 3, 146), (852, 2, 0, .iload 9, 0, 0, 0, 99, 0), (854, 3, 2, .if_icmp .gt 7, 0, 0, 0, 99, 0), (857, 1, 0, .iconst 1, 0, 0, 0, 99, 0), (858, 3, 2, .goto 4, 0, 0, 0, 99, 0), (861, 1, 0, .iconst 0, 0, 0, 0, 99, 0), (862, 1, 2, .ireturn, 0, 0, 3, 99, 0)]
def pgL_law : List (Nat × Nat × z_En) := pgL_law_0 ++ (pgL_law_1 ++ (pgL_law_2 ++ (pgL_law_3 ++ (pgL_law_4 ++ (pgL_law_5 ++ (pgL_law_6 ++ (pgL_law_7)))))))
def pgL_cell : List (Nat × Nat × z_En) := [(0, 1, 0, .iload_n 1, 0, 0, 0, 99, 0), (1, 1, 0, .aload_n 0, 0, 0, 0, 99, 0), (2, 1, 3, .arraylength, 1, 0, 0, 99, 0), (3, 3, 2, .if_icmp .ge 12, 0, 0, 0, 99, 0), (6, 1, 0, .aload_n 0, 0, 0, 0, 99, 0), (7, 1, 0, .iload_n 1, 0, 0, 0, 99, 0), (8, 1, 3, .iaload, 1, 0, 0, 99, 0), (9, 2, 0, .ldc 7, 268435455, 0, 0, 3, 169), (11, 1, 1, .iand, 0, 0, 0, 99, 0), (12, 3, 2, .goto 14, 0, 0, 0, 99, 0), (15, 2, 0, .bipush 61, 0, 0, 0, 99, 0), (17, 1, 0, .iload_n 1, 0, 0, 0, 99, 0), (18, 1, 1, .imul, 0, 0, 0, 99, 0), (19, 2, 0, .bipush 7, 0, 0, 0, 99, 0), (21, 1, 1, .iadd, 0, 0, 0, 99, 0), (22, 1, 0, .iload_n 1, 0, 0, 0, 99, 0), (23, 1, 0, .iconst 3, 0, 0, 0, 99, 0), (24, 1, 1, .iadd, 0, 0, 0, 99, 0), (25, 1, 1, .imul, 0, 0, 0, 99, 0), (26, 1, 2, .ireturn, 0, 0, 0, 99, 0)]
def pgL_put : List (Nat × Nat × z_En) := [(0, 1, 0, .iload_n 1, 0, 0, 0, 99, 0), (1, 3, 2, .ifCond .lt 22, 0, 0, 0, 99, 0), (4, 1, 0, .aload_n 0, 0, 0, 0, 99, 0), (5, 1, 0, .iconst 3, 0, 0, 0, 99, 0), (6, 1, 0, .iload_n 1, 0, 0, 0, 99, 0), (7, 1, 0, .iload_n 2, 0, 0, 0, 99, 0), (8, 3, 4, .invokevirtual 8, 94, 4, 0, 3, 183), (11, 3, 0, .sipush 1032, 0, 0, 0, 99, 0), (14, 3, 2, .if_icmp .ne 9, 0, 0, 0, 99, 0), (17, 1, 0, .iload_n 1, 0, 0, 0, 99, 0), (18, 1, 0, .iconst 1, 0, 0, 0, 99, 0), (19, 1, 1, .iadd, 0, 0, 0, 99, 0), (20, 3, 2, .goto 6, 0, 0, 0, 99, 0), (23, 3, 0, .sipush (-1000), 0, 0, 0, 99, 0), (26, 1, 2, .ireturn, 0, 0, 0, 99, 0)]
def pgL_number : List (Nat × Nat × z_En) := [(0, 1, 0, .iload_n 2, 0, 0, 0, 99, 0), (1, 2, 0, .bipush 10, 0, 0, 0, 99, 0), (3, 3, 2, .if_icmp .ge 15, 0, 0, 0, 99, 0), (6, 1, 0, .aload_n 0, 0, 0, 0, 99, 0), (7, 1, 0, .iload_n 1, 0, 0, 0, 99, 0), (8, 2, 0, .bipush 48, 0, 0, 0, 99, 0), (10, 1, 0, .iload_n 2, 0, 0, 0, 99, 0), (11, 1, 1, .iadd, 0, 0, 0, 99, 0), (12, 3, 4, .invokestatic 14, 252, 3, 1, 3, 180), (15, 3, 2, .goto 26, 0, 0, 0, 99, 0), (18, 1, 0, .aload_n 0, 0, 0, 0, 99, 0), (19, 1, 0, .aload_n 0, 0, 0, 0, 99, 0), (20, 1, 0, .iload_n 1, 0, 0, 0, 99, 0), (21, 2, 0, .bipush 48, 0, 0, 0, 99, 0), (23, 1, 0, .iload_n 2, 0, 0, 0, 99, 0), (24, 2, 0, .bipush 10, 0, 0, 0, 99, 0), (26, 1, 1, .idiv, 0, 0, 0, 99, 0), (27, 1, 1, .iadd, 0, 0, 0, 99, 0), (28, 3, 4, .invokestatic 14, 252, 3, 1, 3, 180), (31, 2, 0, .bipush 48, 0, 0, 0, 99, 0), (33, 1, 0, .iload_n 2, 0, 0, 0, 99, 0), (34, 2, 0, .bipush 10, 0, 0, 0, 99, 0), (36, 1, 1, .irem, 0, 0, 0, 99, 0), (37, 1, 1, .iadd, 0, 0, 0, 99, 0), (38, 3, 4, .invokestatic 14, 252, 3, 1, 3, 180), (41, 1, 2, .ireturn, 0, 0, 0, 99, 0)]
def pgL_numbers_0 : List (Nat × Nat × z_En) := [(0, 2, 0, .aload 6, 0, 0, 0, 99, 0), (2, 1, 0, .iconst 0, 0, 0, 0, 99, 0), (3, 1, 0, .iload_n 2, 0, 0, 0, 99, 0), (4, 1, 3, .iastore, 0, 0, 0, 99, 0), (5, 2, 0, .aload 6, 0, 0, 0, 99, 0), (7, 1, 0, .iconst 1, 0, 0, 0, 99, 0), (8, 1, 0, .iload_n 3, 0, 0, 0, 99, 0), (9, 1, 3, .iastore, 0, 0, 0, 99, 0), (10, 2, 0, .aload 6, 0, 0, 0, 99, 0), (12, 1, 0, .iconst 3, 0, 0, 0, 99, 0), (13, 2, 0, .bipush 8, 0, 0, 0, 99, 0), (15, 1, 0, .aload_n 0, 0, 0, 0, 99, 0), (16, 1, 0, .iload_n 1, 0, 0, 0, 99, 0), (17, 3, 4, .invokestatic 19, 251, 2, 1, 3, 166), (20, 2, 0, .bipush 30, 0, 0, 0, 99, 0), (22, 1, 1, .irem, 0, 0, 0, 99, 0), (23, 1, 1, .iadd, 0, 0, 0, 99, 0), (24, 1, 3, .iastore, 0, 0, 0, 99, 0), (25, 1, 0, .iconst 0, 0, 0, 0, 99, 0), (26, 2, 0, .istore 8, 0, 0, 0, 99, 0), (28, 2, 0, .iload 8, 0, 0, 0, 99, 0), (30, 1, 0, .iload_n 2, 0, 0, 0, 99, 0), (31, 3, 2, .if_icmp .ge 100, 0, 0, 0, 99, 0), (34, 2, 0, .aload 6, 0, 0, 0, 99, 0), (36, 2, 0, .bipush 8, 0, 0, 0, 99, 0), (38, 1, 0, .iconst 3, 0, 0, 0, 99, 0), (39, 2, 0, .iload 8, 0, 0, 0, 99, 0), (41, 1, 1, .imul, 0, 0, 0, 99, 0), (42, 1, 1, .iadd, 0, 0, 0, 99, 0), (43, 1, 0, .iconst 1, 0, 0, 0, 99, 0), (44, 1, 0, .aload_n 0, 0, 0, 0, 99, 0), (45, 1, 0, .iload_n 1, 0, 0, 0, 99, 0), (46, 1, 0, .iconst 1, 0, 0, 0, 99, 0), (47, 1, 1, .iadd, 0, 0, 0, 99, 0), (48, 2, 0, .iload 8, 0, 0, 0, 99, 0), (50, 1, 1, .iadd, 0, 0, 0, 99, 0), (51, 3, 4, .invokestatic 19, 251, 2, 1, 3, 166), (54, 1, 0, .iconst 2, 0, 0, 0, 99, 0), (55, 1, 1, .irem, 0, 0, 0, 99, 0), (56, 1, 1, .iadd, 0, 0, 0, 99, 0), (57, 1, 3, .iastore, 0, 0, 0, 99, 0), (58, 2, 0, .aload 6, 0, 0, 0, 99, 0), (60, 2, 0, .bipush 9, 0, 0, 0, 99, 0), (62, 1, 0, .iconst 3, 0, 0, 0, 99, 0), (63, 2, 0, .iload 8, 0, 0, 0, 99, 0), (65, 1, 1, .imul, 0, 0, 0, 99, 0), (66, 1, 1, .iadd, 0, 0, 0, 99, 0), (67, 1, 0, .aload_n 0, 0, 0, 0, 99, 0), (68, 1, 0, .iload_n 1, 0, 0, 0, 99, 0), (69, 1, 0, .iconst 5, 0, 0, 0, 99, 0), (70, 1, 1, .iadd, 0, 0, 0, 99, 0), (71, 2, 0, .iload 8, 0, 0, 0, 99, 0), (73, 1, 1, .iadd, 0, 0, 0, 99, 0), (74, 3, 4, .invokestatic 19, 251, 2, 1, 3, 166), (77, 1, 0, .iconst 3, 0, 0, 0, 99, 0), (78, 1, 1, .irem, 0, 0, 0, 99, 0), (79, 3, 2, .ifCond .ne 21, 0, 0, 0, 99, 0), (82, 1, 0, .aload_n 0, 0, 0, 0, 99, 0), (83, 1, 0, .iload_n 1, 0, 0, 0, 99, 0), (84, 1, 0, .iconst 5, 0, 0, 0, 99, 0)]
def pgL_numbers_1 : List (Nat × Nat × z_En) := [(85, 1, 1, .iadd, 0, 0, 0, 99, 0), (86, 2, 0, .iload 8, 0, 0, 0, 99, 0), (88, 1, 1, .iadd, 0, 0, 0, 99, 0), (89, 3, 4, .invokestatic 19, 251, 2, 1, 3, 166), (92, 1, 0, .iconst 3, 0, 0, 0, 99, 0), (93, 1, 1, .idiv, 0, 0, 0, 99, 0), (94, 2, 0, .bipush 9, 0, 0, 0, 99, 0), (96, 1, 1, .irem, 0, 0, 0, 99, 0), (97, 3, 2, .goto 4, 0, 0, 0, 99, 0), (100, 1, 0, .iconst 0, 0, 0, 0, 99, 0), (101, 1, 3, .iastore, 0, 0, 0, 99, 0), (102, 2, 0, .aload 6, 0, 0, 0, 99, 0), (104, 2, 0, .bipush 10, 0, 0, 0, 99, 0), (106, 1, 0, .iconst 3, 0, 0, 0, 99, 0), (107, 2, 0, .iload 8, 0, 0, 0, 99, 0), (109, 1, 1, .imul, 0, 0, 0, 99, 0), (110, 1, 1, .iadd, 0, 0, 0, 99, 0), (111, 1, 0, .aload_n 0, 0, 0, 0, 99, 0), (112, 1, 0, .iload_n 1, 0, 0, 0, 99, 0), (113, 2, 0, .bipush 9, 0, 0, 0, 99, 0), (115, 1, 1, .iadd, 0, 0, 0, 99, 0), (116, 2, 0, .iload 8, 0, 0, 0, 99, 0), (118, 1, 1, .iadd, 0, 0, 0, 99, 0), (119, 3, 4, .invokestatic 19, 251, 2, 1, 3, 166), (122, 1, 0, .iconst 4, 0, 0, 0, 99, 0), (123, 1, 1, .irem, 0, 0, 0, 99, 0), (124, 1, 3, .iastore, 0, 0, 0, 99, 0), (125, 3, 0, .iinc 8 1, 0, 0, 0, 99, 0), (128, 3, 2, .goto (-100), 0, 0, 0, 99, 0), (131, 1, 0, .iconst 0, 0, 0, 0, 99, 0), (132, 2, 0, .istore 8, 0, 0, 0, 99, 0), (134, 1, 0, .iconst 0, 0, 0, 0, 99, 0), (135, 2, 0, .istore 9, 0, 0, 0, 99, 0), (137, 2, 0, .iload 9, 0, 0, 0, 99, 0), (139, 1, 0, .iload_n 3, 0, 0, 0, 99, 0), (140, 3, 2, .if_icmp .ge 251, 0, 0, 0, 99, 0), (143, 2, 0, .aload 6, 0, 0, 0, 99, 0), (145, 2, 0, .bipush 20, 0, 0, 0, 99, 0), (147, 1, 0, .iconst 3, 0, 0, 0, 99, 0), (148, 2, 0, .iload 9, 0, 0, 0, 99, 0), (150, 1, 1, .imul, 0, 0, 0, 99, 0), (151, 1, 1, .iadd, 0, 0, 0, 99, 0), (152, 1, 0, .aload_n 0, 0, 0, 0, 99, 0), (153, 1, 0, .iload_n 1, 0, 0, 0, 99, 0), (154, 2, 0, .bipush 13, 0, 0, 0, 99, 0), (156, 1, 1, .iadd, 0, 0, 0, 99, 0), (157, 2, 0, .iload 9, 0, 0, 0, 99, 0), (159, 1, 1, .iadd, 0, 0, 0, 99, 0), (160, 3, 4, .invokestatic 19, 251, 2, 1, 3, 166), (163, 2, 0, .bipush 7, 0, 0, 0, 99, 0), (165, 1, 1, .irem, 0, 0, 0, 99, 0), (166, 1, 3, .iastore, 0, 0, 0, 99, 0), (167, 2, 0, .aload 6, 0, 0, 0, 99, 0), (169, 2, 0, .bipush 21, 0, 0, 0, 99, 0), (171, 1, 0, .iconst 3, 0, 0, 0, 99, 0), (172, 2, 0, .iload 9, 0, 0, 0, 99, 0), (174, 1, 1, .imul, 0, 0, 0, 99, 0), (175, 1, 1, .iadd, 0, 0, 0, 99, 0), (176, 2, 0, .aload 6, 0, 0, 0, 99, 0), (178, 2, 0, .bipush 20, 0, 0, 0, 99, 0)]
def pgL_numbers_2 : List (Nat × Nat × z_En) := [(180, 1, 0, .iconst 3, 0, 0, 0, 99, 0), (181, 2, 0, .iload 9, 0, 0, 0, 99, 0), (183, 1, 1, .imul, 0, 0, 0, 99, 0), (184, 1, 1, .iadd, 0, 0, 0, 99, 0), (185, 1, 3, .iaload, 0, 0, 0, 99, 0), (186, 1, 0, .iconst 3, 0, 0, 0, 99, 0), (187, 1, 1, .iadd, 0, 0, 0, 99, 0), (188, 1, 0, .aload_n 0, 0, 0, 0, 99, 0), (189, 1, 0, .iload_n 1, 0, 0, 0, 99, 0), (190, 2, 0, .bipush 17, 0, 0, 0, 99, 0), (192, 1, 1, .iadd, 0, 0, 0, 99, 0), (193, 2, 0, .iload 9, 0, 0, 0, 99, 0), (195, 1, 1, .iadd, 0, 0, 0, 99, 0), (196, 3, 4, .invokestatic 19, 251, 2, 1, 3, 166), (199, 2, 0, .bipush 30, 0, 0, 0, 99, 0), (201, 1, 1, .irem, 0, 0, 0, 99, 0), (202, 1, 1, .iadd, 0, 0, 0, 99, 0), (203, 1, 3, .iastore, 0, 0, 0, 99, 0), (204, 2, 0, .aload 6, 0, 0, 0, 99, 0), (206, 2, 0, .bipush 22, 0, 0, 0, 99, 0), (208, 1, 0, .iconst 3, 0, 0, 0, 99, 0), (209, 2, 0, .iload 9, 0, 0, 0, 99, 0), (211, 1, 1, .imul, 0, 0, 0, 99, 0), (212, 1, 1, .iadd, 0, 0, 0, 99, 0), (213, 1, 0, .aload_n 0, 0, 0, 0, 99, 0), (214, 1, 0, .iload_n 1, 0, 0, 0, 99, 0), (215, 2, 0, .bipush 21, 0, 0, 0, 99, 0), (217, 1, 1, .iadd, 0, 0, 0, 99, 0), (218, 2, 0, .iload 9, 0, 0, 0, 99, 0), (220, 1, 1, .iadd, 0, 0, 0, 99, 0), (221, 3, 4, .invokestatic 19, 251, 2, 1, 3, 166), (224, 1, 0, .iconst 3, 0, 0, 0, 99, 0), (225, 1, 1, .irem, 0, 0, 0, 99, 0), (226, 3, 2, .ifCond .ne 7, 0, 0, 0, 99, 0), (229, 1, 0, .iconst 1, 0, 0, 0, 99, 0), (230, 3, 2, .goto 4, 0, 0, 0, 99, 0), (233, 1, 0, .iconst 0, 0, 0, 0, 99, 0), (234, 1, 3, .iastore, 0, 0, 0, 99, 0), (235, 1, 0, .aload_n 0, 0, 0, 0, 99, 0), (236, 1, 0, .iload_n 1, 0, 0, 0, 99, 0), (237, 2, 0, .bipush 25, 0, 0, 0, 99, 0), (239, 1, 1, .iadd, 0, 0, 0, 99, 0), (240, 2, 0, .iload 9, 0, 0, 0, 99, 0), (242, 1, 1, .iadd, 0, 0, 0, 99, 0), (243, 3, 4, .invokestatic 19, 251, 2, 1, 3, 166), (246, 2, 0, .istore 10, 0, 0, 0, 99, 0), (248, 1, 0, .iconst 0, 0, 0, 0, 99, 0), (249, 2, 0, .istore 11, 0, 0, 0, 99, 0), (251, 2, 0, .iload 11, 0, 0, 0, 99, 0), (253, 1, 0, .iload_n 2, 0, 0, 0, 99, 0), (254, 3, 2, .if_icmp .ge 131, 0, 0, 0, 99, 0), (257, 2, 0, .iload 11, 0, 0, 0, 99, 0), (259, 3, 2, .ifCond .eq 30, 0, 0, 0, 99, 0), (262, 2, 0, .iload 8, 0, 0, 0, 99, 0), (264, 1, 0, .iload_n 3, 0, 0, 0, 99, 0), (265, 1, 1, .iadd, 0, 0, 0, 99, 0), (266, 1, 0, .iconst 1, 0, 0, 0, 99, 0), (267, 1, 1, .isub, 0, 0, 0, 99, 0), (268, 2, 0, .iload 9, 0, 0, 0, 99, 0), (270, 1, 1, .isub, 0, 0, 0, 99, 0)]
def pgL_numbers_3 : List (Nat × Nat × z_En) := [(271, 2, 0, .iload 4, 0, 0, 0, 99, 0), (273, 3, 2, .if_icmp .ge 20, 0, 0, 0, 99, 0), (276, 2, 0, .iload 10, 0, 0, 0, 99, 0), (278, 1, 0, .iconst 4, 0, 0, 0, 99, 0), (279, 2, 0, .iload 11, 0, 0, 0, 99, 0), (281, 1, 1, .iadd, 0, 0, 0, 99, 0), (282, 1, 1, .ishr, 0, 0, 0, 99, 0), (283, 1, 0, .iconst 2, 0, 0, 0, 99, 0), (284, 1, 1, .irem, 0, 0, 0, 99, 0), (285, 1, 0, .iconst 1, 0, 0, 0, 99, 0), (286, 3, 2, .if_icmp .ne 7, 0, 0, 0, 99, 0), (289, 1, 0, .iconst 1, 0, 0, 0, 99, 0), (290, 3, 2, .goto 4, 0, 0, 0, 99, 0), (293, 1, 0, .iconst 0, 0, 0, 0, 99, 0), (294, 2, 0, .istore 12, 0, 0, 0, 99, 0), (296, 2, 0, .iload 12, 0, 0, 0, 99, 0), (298, 3, 2, .ifCond .eq 81, 0, 0, 0, 99, 0), (301, 2, 0, .aload 7, 0, 0, 0, 99, 0), (303, 1, 0, .iconst 4, 0, 0, 0, 99, 0), (304, 2, 0, .iload 8, 0, 0, 0, 99, 0), (306, 1, 1, .imul, 0, 0, 0, 99, 0), (307, 2, 0, .iload 9, 0, 0, 0, 99, 0), (309, 1, 3, .iastore, 0, 0, 0, 99, 0), (310, 2, 0, .aload 7, 0, 0, 0, 99, 0), (312, 1, 0, .iconst 4, 0, 0, 0, 99, 0), (313, 2, 0, .iload 8, 0, 0, 0, 99, 0), (315, 1, 1, .imul, 0, 0, 0, 99, 0), (316, 1, 0, .iconst 1, 0, 0, 0, 99, 0), (317, 1, 1, .iadd, 0, 0, 0, 99, 0), (318, 2, 0, .iload 10, 0, 0, 0, 99, 0), (320, 2, 0, .iload 11, 0, 0, 0, 99, 0), (322, 1, 1, .iadd, 0, 0, 0, 99, 0), (323, 1, 0, .iload_n 2, 0, 0, 0, 99, 0), (324, 1, 1, .irem, 0, 0, 0, 99, 0), (325, 1, 3, .iastore, 0, 0, 0, 99, 0), (326, 2, 0, .aload 7, 0, 0, 0, 99, 0), (328, 1, 0, .iconst 4, 0, 0, 0, 99, 0), (329, 2, 0, .iload 8, 0, 0, 0, 99, 0), (331, 1, 1, .imul, 0, 0, 0, 99, 0), (332, 1, 0, .iconst 2, 0, 0, 0, 99, 0), (333, 1, 1, .iadd, 0, 0, 0, 99, 0), (334, 1, 0, .iconst 1, 0, 0, 0, 99, 0), (335, 1, 0, .aload_n 0, 0, 0, 0, 99, 0), (336, 1, 0, .iload_n 1, 0, 0, 0, 99, 0), (337, 2, 0, .bipush 29, 0, 0, 0, 99, 0), (339, 1, 1, .iadd, 0, 0, 0, 99, 0), (340, 2, 0, .iload 8, 0, 0, 0, 99, 0), (342, 1, 1, .iadd, 0, 0, 0, 99, 0), (343, 3, 4, .invokestatic 19, 251, 2, 1, 3, 166), (346, 2, 0, .bipush 6, 0, 0, 0, 99, 0), (348, 1, 1, .irem, 0, 0, 0, 99, 0), (349, 1, 1, .iadd, 0, 0, 0, 99, 0), (350, 1, 3, .iastore, 0, 0, 0, 99, 0), (351, 2, 0, .aload 7, 0, 0, 0, 99, 0), (353, 1, 0, .iconst 4, 0, 0, 0, 99, 0), (354, 2, 0, .iload 8, 0, 0, 0, 99, 0), (356, 1, 1, .imul, 0, 0, 0, 99, 0), (357, 1, 0, .iconst 3, 0, 0, 0, 99, 0), (358, 1, 1, .iadd, 0, 0, 0, 99, 0), (359, 1, 0, .iconst 1, 0, 0, 0, 99, 0)]
def pgL_numbers_4 : List (Nat × Nat × z_En) := [(360, 1, 0, .aload_n 0, 0, 0, 0, 99, 0), (361, 1, 0, .iload_n 1, 0, 0, 0, 99, 0), (362, 2, 0, .bipush 40, 0, 0, 0, 99, 0), (364, 1, 1, .iadd, 0, 0, 0, 99, 0), (365, 2, 0, .iload 8, 0, 0, 0, 99, 0), (367, 1, 1, .iadd, 0, 0, 0, 99, 0), (368, 3, 4, .invokestatic 19, 251, 2, 1, 3, 166), (371, 2, 0, .bipush 9, 0, 0, 0, 99, 0), (373, 1, 1, .irem, 0, 0, 0, 99, 0), (374, 1, 1, .iadd, 0, 0, 0, 99, 0), (375, 1, 3, .iastore, 0, 0, 0, 99, 0), (376, 3, 0, .iinc 8 1, 0, 0, 0, 99, 0), (379, 3, 0, .iinc 11 1, 0, 0, 0, 99, 0), (382, 3, 2, .goto (-131), 0, 0, 0, 99, 0), (385, 3, 0, .iinc 9 1, 0, 0, 0, 99, 0), (388, 3, 2, .goto (-251), 0, 0, 0, 99, 0), (391, 2, 0, .aload 6, 0, 0, 0, 99, 0), (393, 1, 0, .iconst 2, 0, 0, 0, 99, 0), (394, 2, 0, .iload 8, 0, 0, 0, 99, 0), (396, 1, 3, .iastore, 0, 0, 0, 99, 0), (397, 2, 0, .aload 6, 0, 0, 0, 99, 0), (399, 1, 0, .iconst 4, 0, 0, 0, 99, 0), (400, 2, 0, .iload 5, 0, 0, 0, 99, 0), (402, 3, 2, .ifCond .eq 21, 0, 0, 0, 99, 0), (405, 1, 0, .iload_n 3, 0, 0, 0, 99, 0), (406, 1, 0, .iconst 1, 0, 0, 0, 99, 0), (407, 3, 2, .if_icmp .le 16, 0, 0, 0, 99, 0), (410, 1, 0, .aload_n 0, 0, 0, 0, 99, 0), (411, 1, 0, .iload_n 1, 0, 0, 0, 99, 0), (412, 2, 0, .bipush 52, 0, 0, 0, 99, 0), (414, 1, 1, .iadd, 0, 0, 0, 99, 0), (415, 3, 4, .invokestatic 19, 251, 2, 1, 3, 166), (418, 1, 0, .iconst 3, 0, 0, 0, 99, 0), (419, 1, 1, .irem, 0, 0, 0, 99, 0), (420, 3, 2, .goto 4, 0, 0, 0, 99, 0), (423, 1, 0, .iconst 0, 0, 0, 0, 99, 0), (424, 1, 3, .iastore, 0, 0, 0, 99, 0), (425, 1, 0, .iconst 0, 0, 0, 0, 99, 0), (426, 2, 0, .istore 9, 0, 0, 0, 99, 0), (428, 2, 0, .iload 9, 0, 0, 0, 99, 0), (430, 2, 0, .aload 6, 0, 0, 0, 99, 0), (432, 1, 0, .iconst 4, 0, 0, 0, 99, 0), (433, 1, 3, .iaload, 0, 0, 0, 99, 0), (434, 3, 2, .if_icmp .ge 95, 0, 0, 0, 99, 0), (437, 2, 0, .aload 6, 0, 0, 0, 99, 0), (439, 2, 0, .bipush 32, 0, 0, 0, 99, 0), (441, 1, 0, .iconst 3, 0, 0, 0, 99, 0), (442, 2, 0, .iload 9, 0, 0, 0, 99, 0), (444, 1, 1, .imul, 0, 0, 0, 99, 0), (445, 1, 1, .iadd, 0, 0, 0, 99, 0), (446, 1, 0, .aload_n 0, 0, 0, 0, 99, 0), (447, 1, 0, .iload_n 1, 0, 0, 0, 99, 0), (448, 2, 0, .bipush 53, 0, 0, 0, 99, 0), (450, 1, 1, .iadd, 0, 0, 0, 99, 0), (451, 2, 0, .iload 9, 0, 0, 0, 99, 0), (453, 1, 1, .iadd, 0, 0, 0, 99, 0), (454, 3, 4, .invokestatic 19, 251, 2, 1, 3, 166), (457, 1, 0, .iload_n 3, 0, 0, 0, 99, 0), (458, 1, 1, .irem, 0, 0, 0, 99, 0), (459, 1, 3, .iastore, 0, 0, 0, 99, 0)]
def pgL_numbers_5 : List (Nat × Nat × z_En) := [(460, 2, 0, .aload 6, 0, 0, 0, 99, 0), (462, 2, 0, .bipush 33, 0, 0, 0, 99, 0), (464, 1, 0, .iconst 3, 0, 0, 0, 99, 0), (465, 2, 0, .iload 9, 0, 0, 0, 99, 0), (467, 1, 1, .imul, 0, 0, 0, 99, 0), (468, 1, 1, .iadd, 0, 0, 0, 99, 0), (469, 2, 0, .aload 6, 0, 0, 0, 99, 0), (471, 2, 0, .bipush 32, 0, 0, 0, 99, 0), (473, 1, 0, .iconst 3, 0, 0, 0, 99, 0), (474, 2, 0, .iload 9, 0, 0, 0, 99, 0), (476, 1, 1, .imul, 0, 0, 0, 99, 0), (477, 1, 1, .iadd, 0, 0, 0, 99, 0), (478, 1, 3, .iaload, 0, 0, 0, 99, 0), (479, 1, 0, .iconst 1, 0, 0, 0, 99, 0), (480, 1, 1, .iadd, 0, 0, 0, 99, 0), (481, 1, 0, .aload_n 0, 0, 0, 0, 99, 0), (482, 1, 0, .iload_n 1, 0, 0, 0, 99, 0), (483, 2, 0, .bipush 55, 0, 0, 0, 99, 0), (485, 1, 1, .iadd, 0, 0, 0, 99, 0), (486, 2, 0, .iload 9, 0, 0, 0, 99, 0), (488, 1, 1, .iadd, 0, 0, 0, 99, 0), (489, 3, 4, .invokestatic 19, 251, 2, 1, 3, 166), (492, 1, 0, .iload_n 3, 0, 0, 0, 99, 0), (493, 1, 0, .iconst 1, 0, 0, 0, 99, 0), (494, 1, 1, .isub, 0, 0, 0, 99, 0), (495, 1, 1, .irem, 0, 0, 0, 99, 0), (496, 1, 1, .iadd, 0, 0, 0, 99, 0), (497, 1, 0, .iload_n 3, 0, 0, 0, 99, 0), (498, 1, 1, .irem, 0, 0, 0, 99, 0), (499, 1, 3, .iastore, 0, 0, 0, 99, 0), (500, 2, 0, .aload 6, 0, 0, 0, 99, 0), (502, 2, 0, .bipush 34, 0, 0, 0, 99, 0), (504, 1, 0, .iconst 3, 0, 0, 0, 99, 0), (505, 2, 0, .iload 9, 0, 0, 0, 99, 0), (507, 1, 1, .imul, 0, 0, 0, 99, 0), (508, 1, 1, .iadd, 0, 0, 0, 99, 0), (509, 1, 0, .aload_n 0, 0, 0, 0, 99, 0), (510, 1, 0, .iload_n 1, 0, 0, 0, 99, 0), (511, 2, 0, .bipush 57, 0, 0, 0, 99, 0), (513, 1, 1, .iadd, 0, 0, 0, 99, 0), (514, 2, 0, .iload 9, 0, 0, 0, 99, 0), (516, 1, 1, .iadd, 0, 0, 0, 99, 0), (517, 3, 4, .invokestatic 19, 251, 2, 1, 3, 166), (520, 1, 0, .iload_n 2, 0, 0, 0, 99, 0), (521, 1, 1, .irem, 0, 0, 0, 99, 0), (522, 1, 3, .iastore, 0, 0, 0, 99, 0), (523, 3, 0, .iinc 9 1, 0, 0, 0, 99, 0), (526, 3, 2, .goto (-98), 0, 0, 0, 99, 0), (529, 2, 0, .aload 6, 0, 0, 0, 99, 0), (531, 1, 0, .iconst 5, 0, 0, 0, 99, 0), (532, 1, 0, .aload_n 0, 0, 0, 0, 99, 0), (533, 1, 0, .iload_n 1, 0, 0, 0, 99, 0), (534, 2, 0, .bipush 59, 0, 0, 0, 99, 0), (536, 1, 1, .iadd, 0, 0, 0, 99, 0), (537, 3, 4, .invokestatic 19, 251, 2, 1, 3, 166), (540, 1, 0, .iconst 3, 0, 0, 0, 99, 0), (541, 1, 1, .irem, 0, 0, 0, 99, 0), (542, 1, 3, .iastore, 0, 0, 0, 99, 0), (543, 1, 0, .iconst 0, 0, 0, 0, 99, 0), (544, 2, 0, .istore 9, 0, 0, 0, 99, 0)]
def pgL_numbers_6 : List (Nat × Nat × z_En) := [(546, 2, 0, .iload 9, 0, 0, 0, 99, 0), (548, 2, 0, .aload 6, 0, 0, 0, 99, 0), (550, 1, 0, .iconst 5, 0, 0, 0, 99, 0), (551, 1, 3, .iaload, 0, 0, 0, 99, 0), (552, 3, 2, .if_icmp .ge 91, 0, 0, 0, 99, 0), (555, 2, 0, .aload 6, 0, 0, 0, 99, 0), (557, 2, 0, .bipush 40, 0, 0, 0, 99, 0), (559, 1, 0, .iconst 3, 0, 0, 0, 99, 0), (560, 2, 0, .iload 9, 0, 0, 0, 99, 0), (562, 1, 1, .imul, 0, 0, 0, 99, 0), (563, 1, 1, .iadd, 0, 0, 0, 99, 0), (564, 1, 0, .aload_n 0, 0, 0, 0, 99, 0), (565, 1, 0, .iload_n 1, 0, 0, 0, 99, 0), (566, 2, 0, .bipush 60, 0, 0, 0, 99, 0), (568, 1, 1, .iadd, 0, 0, 0, 99, 0), (569, 2, 0, .iload 9, 0, 0, 0, 99, 0), (571, 1, 1, .iadd, 0, 0, 0, 99, 0), (572, 3, 4, .invokestatic 19, 251, 2, 1, 3, 166), (575, 1, 0, .iload_n 2, 0, 0, 0, 99, 0), (576, 1, 1, .irem, 0, 0, 0, 99, 0), (577, 1, 3, .iastore, 0, 0, 0, 99, 0), (578, 2, 0, .aload 6, 0, 0, 0, 99, 0), (580, 2, 0, .bipush 41, 0, 0, 0, 99, 0), (582, 1, 0, .iconst 3, 0, 0, 0, 99, 0), (583, 2, 0, .iload 9, 0, 0, 0, 99, 0), (585, 1, 1, .imul, 0, 0, 0, 99, 0), (586, 1, 1, .iadd, 0, 0, 0, 99, 0), (587, 1, 0, .aload_n 0, 0, 0, 0, 99, 0), (588, 1, 0, .iload_n 1, 0, 0, 0, 99, 0), (589, 2, 0, .bipush 62, 0, 0, 0, 99, 0), (591, 1, 1, .iadd, 0, 0, 0, 99, 0), (592, 2, 0, .iload 9, 0, 0, 0, 99, 0), (594, 1, 1, .iadd, 0, 0, 0, 99, 0), (595, 3, 4, .invokestatic 19, 251, 2, 1, 3, 166), (598, 2, 0, .bipush 12, 0, 0, 0, 99, 0), (600, 1, 1, .irem, 0, 0, 0, 99, 0), (601, 1, 3, .iastore, 0, 0, 0, 99, 0), (602, 2, 0, .aload 6, 0, 0, 0, 99, 0), (604, 2, 0, .bipush 42, 0, 0, 0, 99, 0), (606, 1, 0, .iconst 3, 0, 0, 0, 99, 0), (607, 2, 0, .iload 9, 0, 0, 0, 99, 0), (609, 1, 1, .imul, 0, 0, 0, 99, 0), (610, 1, 1, .iadd, 0, 0, 0, 99, 0), (611, 2, 0, .aload 6, 0, 0, 0, 99, 0), (613, 2, 0, .bipush 41, 0, 0, 0, 99, 0), (615, 1, 0, .iconst 3, 0, 0, 0, 99, 0), (616, 2, 0, .iload 9, 0, 0, 0, 99, 0), (618, 1, 1, .imul, 0, 0, 0, 99, 0), (619, 1, 1, .iadd, 0, 0, 0, 99, 0), (620, 1, 3, .iaload, 0, 0, 0, 99, 0), (621, 1, 0, .aload_n 0, 0, 0, 0, 99, 0), (622, 1, 0, .iload_n 1, 0, 0, 0, 99, 0), (623, 2, 0, .bipush 64, 0, 0, 0, 99, 0), (625, 1, 1, .iadd, 0, 0, 0, 99, 0), (626, 2, 0, .iload 9, 0, 0, 0, 99, 0), (628, 1, 1, .iadd, 0, 0, 0, 99, 0), (629, 3, 4, .invokestatic 19, 251, 2, 1, 3, 166), (632, 2, 0, .bipush 6, 0, 0, 0, 99, 0), (634, 1, 1, .irem, 0, 0, 0, 99, 0), (635, 1, 1, .iadd, 0, 0, 0, 99, 0)]
def pgL_numbers_7 : List (Nat × Nat × z_En) := [(636, 1, 3, .iastore, 0, 0, 0, 99, 0), (637, 3, 0, .iinc 9 1, 0, 0, 0, 99, 0), (640, 3, 2, .goto (-94), 0, 0, 0, 99, 0), (643, 1, 2, .return_, 0, 0, 0, 99, 0)]
def pgL_numbers : List (Nat × Nat × z_En) := pgL_numbers_0 ++ (pgL_numbers_1 ++ (pgL_numbers_2 ++ (pgL_numbers_3 ++ (pgL_numbers_4 ++ (pgL_numbers_5 ++ (pgL_numbers_6 ++ (pgL_numbers_7)))))))
def pgL_house_0 : List (Nat × Nat × z_En) := [(0, 1, 0, .aload_n 0, 0, 0, 0, 99, 0), (1, 1, 0, .iconst 3, 0, 0, 0, 99, 0), (2, 2, 0, .bipush 120, 0, 0, 0, 99, 0), (4, 3, 4, .invokevirtual 23, 93, 3, 0, 3, 176), (7, 2, 0, .bipush 120, 0, 0, 0, 99, 0), (9, 3, 2, .if_icmp .eq 5, 0, 0, 0, 99, 0), (12, 1, 0, .iconst 0, 0, 0, 0, 99, 0), (13, 1, 2, .ireturn, 0, 0, 3, 99, 0), (14, 1, 0, .aload_n 0, 0, 0, 0, 99, 0), (15, 1, 0, .aload_n 0, 0, 0, 0, 99, 0), (16, 1, 0, .iconst 0, 0, 0, 0, 99, 0), (17, 2, 0, .bipush 109, 0, 0, 0, 99, 0), (19, 3, 4, .invokestatic 14, 252, 3, 1, 3, 180), (22, 1, 0, .aload_n 1, 0, 0, 0, 99, 0), (23, 1, 0, .iconst 3, 0, 0, 0, 99, 0), (24, 1, 3, .iaload, 0, 0, 0, 99, 0), (25, 3, 4, .invokestatic 27, 253, 3, 1, 3, 192), (28, 1, 0, .istore_n 3, 0, 0, 0, 99, 0), (29, 1, 0, .iconst 0, 0, 0, 0, 99, 0), (30, 2, 0, .istore 4, 0, 0, 0, 99, 0), (32, 2, 0, .iload 4, 0, 0, 0, 99, 0), (34, 1, 0, .aload_n 1, 0, 0, 0, 99, 0), (35, 1, 0, .iconst 0, 0, 0, 0, 99, 0), (36, 1, 3, .iaload, 0, 0, 0, 99, 0), (37, 3, 2, .if_icmp .ge 110, 0, 0, 0, 99, 0), (40, 1, 0, .aload_n 0, 0, 0, 0, 99, 0), (41, 1, 0, .aload_n 0, 0, 0, 0, 99, 0), (42, 1, 0, .iload_n 3, 0, 0, 0, 99, 0), (43, 2, 0, .bipush 112, 0, 0, 0, 99, 0), (45, 3, 4, .invokestatic 14, 252, 3, 1, 3, 180), (48, 2, 0, .bipush 48, 0, 0, 0, 99, 0), (50, 1, 0, .aload_n 1, 0, 0, 0, 99, 0), (51, 2, 0, .bipush 8, 0, 0, 0, 99, 0), (53, 1, 0, .iconst 3, 0, 0, 0, 99, 0), (54, 2, 0, .iload 4, 0, 0, 0, 99, 0), (56, 1, 1, .imul, 0, 0, 0, 99, 0), (57, 1, 1, .iadd, 0, 0, 0, 99, 0), (58, 1, 3, .iaload, 0, 0, 0, 99, 0), (59, 1, 1, .iadd, 0, 0, 0, 99, 0), (60, 3, 4, .invokestatic 14, 252, 3, 1, 3, 180), (63, 1, 0, .istore_n 3, 0, 0, 0, 99, 0), (64, 1, 0, .aload_n 1, 0, 0, 0, 99, 0), (65, 2, 0, .bipush 9, 0, 0, 0, 99, 0), (67, 1, 0, .iconst 3, 0, 0, 0, 99, 0), (68, 2, 0, .iload 4, 0, 0, 0, 99, 0), (70, 1, 1, .imul, 0, 0, 0, 99, 0), (71, 1, 1, .iadd, 0, 0, 0, 99, 0), (72, 1, 3, .iaload, 0, 0, 0, 99, 0), (73, 3, 2, .ifCond .le 26, 0, 0, 0, 99, 0), (76, 1, 0, .aload_n 0, 0, 0, 0, 99, 0), (77, 1, 0, .aload_n 0, 0, 0, 0, 99, 0), (78, 1, 0, .iload_n 3, 0, 0, 0, 99, 0), (79, 2, 0, .bipush 58, 0, 0, 0, 99, 0), (81, 3, 4, .invokestatic 14, 252, 3, 1, 3, 180), (84, 1, 0, .aload_n 1, 0, 0, 0, 99, 0), (85, 2, 0, .bipush 9, 0, 0, 0, 99, 0), (87, 1, 0, .iconst 3, 0, 0, 0, 99, 0), (88, 2, 0, .iload 4, 0, 0, 0, 99, 0), (90, 1, 1, .imul, 0, 0, 0, 99, 0), (91, 1, 1, .iadd, 0, 0, 0, 99, 0)]
def pgL_house_1 : List (Nat × Nat × z_En) := [(92, 1, 3, .iaload, 0, 0, 0, 99, 0), (93, 3, 4, .invokestatic 27, 253, 3, 1, 3, 192), (96, 3, 2, .goto 4, 0, 0, 0, 99, 0), (99, 1, 0, .iload_n 3, 0, 0, 0, 99, 0), (100, 1, 0, .istore_n 3, 0, 0, 0, 99, 0), (101, 1, 0, .aload_n 1, 0, 0, 0, 99, 0), (102, 2, 0, .bipush 10, 0, 0, 0, 99, 0), (104, 1, 0, .iconst 3, 0, 0, 0, 99, 0), (105, 2, 0, .iload 4, 0, 0, 0, 99, 0), (107, 1, 1, .imul, 0, 0, 0, 99, 0), (108, 1, 1, .iadd, 0, 0, 0, 99, 0), (109, 1, 3, .iaload, 0, 0, 0, 99, 0), (110, 3, 2, .ifCond .le 29, 0, 0, 0, 99, 0), (113, 1, 0, .aload_n 0, 0, 0, 0, 99, 0), (114, 1, 0, .aload_n 0, 0, 0, 0, 99, 0), (115, 1, 0, .iload_n 3, 0, 0, 0, 99, 0), (116, 2, 0, .bipush 115, 0, 0, 0, 99, 0), (118, 3, 4, .invokestatic 14, 252, 3, 1, 3, 180), (121, 2, 0, .bipush 48, 0, 0, 0, 99, 0), (123, 1, 0, .aload_n 1, 0, 0, 0, 99, 0), (124, 2, 0, .bipush 10, 0, 0, 0, 99, 0), (126, 1, 0, .iconst 3, 0, 0, 0, 99, 0), (127, 2, 0, .iload 4, 0, 0, 0, 99, 0), (129, 1, 1, .imul, 0, 0, 0, 99, 0), (130, 1, 1, .iadd, 0, 0, 0, 99, 0), (131, 1, 3, .iaload, 0, 0, 0, 99, 0), (132, 1, 1, .iadd, 0, 0, 0, 99, 0), (133, 3, 4, .invokestatic 14, 252, 3, 1, 3, 180), (136, 3, 2, .goto 4, 0, 0, 0, 99, 0), (139, 1, 0, .iload_n 3, 0, 0, 0, 99, 0), (140, 1, 0, .istore_n 3, 0, 0, 0, 99, 0), (141, 3, 0, .iinc 4 1, 0, 0, 0, 99, 0), (144, 3, 2, .goto (-112), 0, 0, 0, 99, 0), (147, 1, 0, .iconst 0, 0, 0, 0, 99, 0), (148, 2, 0, .istore 4, 0, 0, 0, 99, 0), (150, 1, 0, .iconst 0, 0, 0, 0, 99, 0), (151, 2, 0, .istore 5, 0, 0, 0, 99, 0), (153, 2, 0, .iload 5, 0, 0, 0, 99, 0), (155, 1, 0, .aload_n 1, 0, 0, 0, 99, 0), (156, 1, 0, .iconst 1, 0, 0, 0, 99, 0), (157, 1, 3, .iaload, 0, 0, 0, 99, 0), (158, 3, 2, .if_icmp .ge 198, 0, 0, 0, 99, 0), (161, 1, 0, .aload_n 0, 0, 0, 0, 99, 0), (162, 1, 0, .aload_n 0, 0, 0, 0, 99, 0), (163, 1, 0, .aload_n 0, 0, 0, 0, 99, 0), (164, 1, 0, .aload_n 0, 0, 0, 0, 99, 0), (165, 1, 0, .iload_n 3, 0, 0, 0, 99, 0), (166, 2, 0, .bipush 114, 0, 0, 0, 99, 0), (168, 3, 4, .invokestatic 14, 252, 3, 1, 3, 180), (171, 1, 0, .aload_n 1, 0, 0, 0, 99, 0), (172, 2, 0, .bipush 20, 0, 0, 0, 99, 0), (174, 1, 0, .iconst 3, 0, 0, 0, 99, 0), (175, 2, 0, .iload 5, 0, 0, 0, 99, 0), (177, 1, 1, .imul, 0, 0, 0, 99, 0), (178, 1, 1, .iadd, 0, 0, 0, 99, 0), (179, 1, 3, .iaload, 0, 0, 0, 99, 0), (180, 3, 4, .invokestatic 27, 253, 3, 1, 3, 192), (183, 2, 0, .bipush 45, 0, 0, 0, 99, 0), (185, 3, 4, .invokestatic 14, 252, 3, 1, 3, 180), (188, 1, 0, .aload_n 1, 0, 0, 0, 99, 0)]
def pgL_house_2 : List (Nat × Nat × z_En) := [(189, 2, 0, .bipush 21, 0, 0, 0, 99, 0), (191, 1, 0, .iconst 3, 0, 0, 0, 99, 0), (192, 2, 0, .iload 5, 0, 0, 0, 99, 0), (194, 1, 1, .imul, 0, 0, 0, 99, 0), (195, 1, 1, .iadd, 0, 0, 0, 99, 0), (196, 1, 3, .iaload, 0, 0, 0, 99, 0), (197, 3, 4, .invokestatic 27, 253, 3, 1, 3, 192), (200, 1, 0, .istore_n 3, 0, 0, 0, 99, 0), (201, 1, 0, .aload_n 0, 0, 0, 0, 99, 0), (202, 1, 0, .iload_n 3, 0, 0, 0, 99, 0), (203, 2, 0, .bipush 40, 0, 0, 0, 99, 0), (205, 3, 4, .invokestatic 14, 252, 3, 1, 3, 180), (208, 1, 0, .istore_n 3, 0, 0, 0, 99, 0), (209, 1, 0, .aload_n 1, 0, 0, 0, 99, 0), (210, 2, 0, .bipush 22, 0, 0, 0, 99, 0), (212, 1, 0, .iconst 3, 0, 0, 0, 99, 0), (213, 2, 0, .iload 5, 0, 0, 0, 99, 0), (215, 1, 1, .imul, 0, 0, 0, 99, 0), (216, 1, 1, .iadd, 0, 0, 0, 99, 0), (217, 1, 3, .iaload, 0, 0, 0, 99, 0), (218, 1, 0, .iconst 1, 0, 0, 0, 99, 0), (219, 3, 2, .if_icmp .ne 13, 0, 0, 0, 99, 0), (222, 1, 0, .aload_n 0, 0, 0, 0, 99, 0), (223, 1, 0, .iload_n 3, 0, 0, 0, 99, 0), (224, 2, 0, .bipush 33, 0, 0, 0, 99, 0), (226, 3, 4, .invokestatic 14, 252, 3, 1, 3, 180), (229, 3, 2, .goto 4, 0, 0, 0, 99, 0), (232, 1, 0, .iload_n 3, 0, 0, 0, 99, 0), (233, 1, 0, .istore_n 3, 0, 0, 0, 99, 0), (234, 1, 0, .iconst 1, 0, 0, 0, 99, 0), (235, 2, 0, .istore 6, 0, 0, 0, 99, 0), (237, 2, 0, .iload 6, 0, 0, 0, 99, 0), (239, 3, 2, .ifCond .eq 111, 0, 0, 0, 99, 0), (242, 1, 0, .aload_n 0, 0, 0, 0, 99, 0), (243, 1, 0, .aload_n 0, 0, 0, 0, 99, 0), (244, 1, 0, .aload_n 0, 0, 0, 0, 99, 0), (245, 1, 0, .iload_n 3, 0, 0, 0, 99, 0), (246, 2, 0, .bipush 48, 0, 0, 0, 99, 0), (248, 1, 0, .aload_n 2, 0, 0, 0, 99, 0), (249, 1, 0, .iconst 4, 0, 0, 0, 99, 0), (250, 2, 0, .iload 4, 0, 0, 0, 99, 0), (252, 1, 1, .imul, 0, 0, 0, 99, 0), (253, 1, 0, .iconst 1, 0, 0, 0, 99, 0), (254, 1, 1, .iadd, 0, 0, 0, 99, 0), (255, 1, 3, .iaload, 0, 0, 0, 99, 0), (256, 1, 1, .iadd, 0, 0, 0, 99, 0), (257, 3, 4, .invokestatic 14, 252, 3, 1, 3, 180), (260, 2, 0, .bipush 42, 0, 0, 0, 99, 0), (262, 3, 4, .invokestatic 14, 252, 3, 1, 3, 180), (265, 1, 0, .aload_n 2, 0, 0, 0, 99, 0), (266, 1, 0, .iconst 4, 0, 0, 0, 99, 0), (267, 2, 0, .iload 4, 0, 0, 0, 99, 0), (269, 1, 1, .imul, 0, 0, 0, 99, 0), (270, 1, 0, .iconst 2, 0, 0, 0, 99, 0), (271, 1, 1, .iadd, 0, 0, 0, 99, 0), (272, 1, 3, .iaload, 0, 0, 0, 99, 0), (273, 3, 4, .invokestatic 27, 253, 3, 1, 3, 192), (276, 1, 0, .istore_n 3, 0, 0, 0, 99, 0), (277, 1, 0, .aload_n 0, 0, 0, 0, 99, 0), (278, 1, 0, .aload_n 0, 0, 0, 0, 99, 0)]
def pgL_house_3 : List (Nat × Nat × z_En) := [(279, 1, 0, .iload_n 3, 0, 0, 0, 99, 0), (280, 2, 0, .bipush 61, 0, 0, 0, 99, 0), (282, 3, 4, .invokestatic 14, 252, 3, 1, 3, 180), (285, 2, 0, .bipush 48, 0, 0, 0, 99, 0), (287, 1, 0, .aload_n 2, 0, 0, 0, 99, 0), (288, 1, 0, .iconst 4, 0, 0, 0, 99, 0), (289, 2, 0, .iload 4, 0, 0, 0, 99, 0), (291, 1, 1, .imul, 0, 0, 0, 99, 0), (292, 1, 0, .iconst 3, 0, 0, 0, 99, 0), (293, 1, 1, .iadd, 0, 0, 0, 99, 0), (294, 1, 3, .iaload, 0, 0, 0, 99, 0), (295, 1, 1, .iadd, 0, 0, 0, 99, 0), (296, 3, 4, .invokestatic 14, 252, 3, 1, 3, 180), (299, 1, 0, .istore_n 3, 0, 0, 0, 99, 0), (300, 3, 0, .iinc 4 1, 0, 0, 0, 99, 0), (303, 2, 0, .iload 4, 0, 0, 0, 99, 0), (305, 1, 0, .aload_n 1, 0, 0, 0, 99, 0), (306, 1, 0, .iconst 2, 0, 0, 0, 99, 0), (307, 1, 3, .iaload, 0, 0, 0, 99, 0), (308, 3, 2, .if_icmp .ge 18, 0, 0, 0, 99, 0), (311, 1, 0, .aload_n 2, 0, 0, 0, 99, 0), (312, 1, 0, .iconst 4, 0, 0, 0, 99, 0), (313, 2, 0, .iload 4, 0, 0, 0, 99, 0), (315, 1, 1, .imul, 0, 0, 0, 99, 0), (316, 1, 3, .iaload, 0, 0, 0, 99, 0), (317, 2, 0, .iload 5, 0, 0, 0, 99, 0), (319, 3, 2, .if_icmp .ne 7, 0, 0, 0, 99, 0), (322, 1, 0, .iconst 1, 0, 0, 0, 99, 0), (323, 3, 2, .goto 4, 0, 0, 0, 99, 0), (326, 1, 0, .iconst 0, 0, 0, 0, 99, 0), (327, 2, 0, .istore 6, 0, 0, 0, 99, 0), (329, 1, 0, .aload_n 0, 0, 0, 0, 99, 0), (330, 1, 0, .iload_n 3, 0, 0, 0, 99, 0), (331, 2, 0, .iload 6, 0, 0, 0, 99, 0), (333, 3, 2, .ifCond .eq 8, 0, 0, 0, 99, 0), (336, 2, 0, .bipush 44, 0, 0, 0, 99, 0), (338, 3, 2, .goto 5, 0, 0, 0, 99, 0), (341, 2, 0, .bipush 41, 0, 0, 0, 99, 0), (343, 3, 4, .invokestatic 14, 252, 3, 1, 3, 180), (346, 1, 0, .istore_n 3, 0, 0, 0, 99, 0), (347, 3, 2, .goto (-110), 0, 0, 0, 99, 0), (350, 3, 0, .iinc 5 1, 0, 0, 0, 99, 0), (353, 3, 2, .goto (-200), 0, 0, 0, 99, 0), (356, 1, 0, .iconst 0, 0, 0, 0, 99, 0), (357, 2, 0, .istore 5, 0, 0, 0, 99, 0), (359, 2, 0, .iload 5, 0, 0, 0, 99, 0), (361, 1, 0, .aload_n 1, 0, 0, 0, 99, 0), (362, 1, 0, .iconst 4, 0, 0, 0, 99, 0), (363, 1, 3, .iaload, 0, 0, 0, 99, 0), (364, 3, 2, .if_icmp .ge 79, 0, 0, 0, 99, 0), (367, 1, 0, .aload_n 0, 0, 0, 0, 99, 0), (368, 1, 0, .aload_n 0, 0, 0, 0, 99, 0), (369, 1, 0, .aload_n 0, 0, 0, 0, 99, 0), (370, 1, 0, .iload_n 3, 0, 0, 0, 99, 0), (371, 2, 0, .bipush 110, 0, 0, 0, 99, 0), (373, 3, 4, .invokestatic 14, 252, 3, 1, 3, 180), (376, 2, 0, .bipush 48, 0, 0, 0, 99, 0), (378, 1, 0, .aload_n 1, 0, 0, 0, 99, 0), (379, 2, 0, .bipush 32, 0, 0, 0, 99, 0), (381, 1, 0, .iconst 3, 0, 0, 0, 99, 0)]
def pgL_house_4 : List (Nat × Nat × z_En) := [(382, 2, 0, .iload 5, 0, 0, 0, 99, 0), (384, 1, 1, .imul, 0, 0, 0, 99, 0), (385, 1, 1, .iadd, 0, 0, 0, 99, 0), (386, 1, 3, .iaload, 0, 0, 0, 99, 0), (387, 1, 1, .iadd, 0, 0, 0, 99, 0), (388, 3, 4, .invokestatic 14, 252, 3, 1, 3, 180), (391, 2, 0, .bipush 47, 0, 0, 0, 99, 0), (393, 3, 4, .invokestatic 14, 252, 3, 1, 3, 180), (396, 1, 0, .istore_n 3, 0, 0, 0, 99, 0), (397, 1, 0, .aload_n 0, 0, 0, 0, 99, 0), (398, 1, 0, .aload_n 0, 0, 0, 0, 99, 0), (399, 1, 0, .aload_n 0, 0, 0, 0, 99, 0), (400, 1, 0, .iload_n 3, 0, 0, 0, 99, 0), (401, 2, 0, .bipush 48, 0, 0, 0, 99, 0), (403, 1, 0, .aload_n 1, 0, 0, 0, 99, 0), (404, 2, 0, .bipush 33, 0, 0, 0, 99, 0), (406, 1, 0, .iconst 3, 0, 0, 0, 99, 0), (407, 2, 0, .iload 5, 0, 0, 0, 99, 0), (409, 1, 1, .imul, 0, 0, 0, 99, 0), (410, 1, 1, .iadd, 0, 0, 0, 99, 0), (411, 1, 3, .iaload, 0, 0, 0, 99, 0), (412, 1, 1, .iadd, 0, 0, 0, 99, 0), (413, 3, 4, .invokestatic 14, 252, 3, 1, 3, 180), (416, 2, 0, .bipush 64, 0, 0, 0, 99, 0), (418, 3, 4, .invokestatic 14, 252, 3, 1, 3, 180), (421, 2, 0, .bipush 48, 0, 0, 0, 99, 0), (423, 1, 0, .aload_n 1, 0, 0, 0, 99, 0), (424, 2, 0, .bipush 34, 0, 0, 0, 99, 0), (426, 1, 0, .iconst 3, 0, 0, 0, 99, 0), (427, 2, 0, .iload 5, 0, 0, 0, 99, 0), (429, 1, 1, .imul, 0, 0, 0, 99, 0), (430, 1, 1, .iadd, 0, 0, 0, 99, 0), (431, 1, 3, .iaload, 0, 0, 0, 99, 0), (432, 1, 1, .iadd, 0, 0, 0, 99, 0), (433, 3, 4, .invokestatic 14, 252, 3, 1, 3, 180), (436, 1, 0, .istore_n 3, 0, 0, 0, 99, 0), (437, 3, 0, .iinc 5 1, 0, 0, 0, 99, 0), (440, 3, 2, .goto (-81), 0, 0, 0, 99, 0), (443, 1, 0, .iconst 0, 0, 0, 0, 99, 0), (444, 2, 0, .istore 5, 0, 0, 0, 99, 0), (446, 2, 0, .iload 5, 0, 0, 0, 99, 0), (448, 1, 0, .aload_n 1, 0, 0, 0, 99, 0), (449, 1, 0, .iconst 5, 0, 0, 0, 99, 0), (450, 1, 3, .iaload, 0, 0, 0, 99, 0), (451, 3, 2, .if_icmp .ge 73, 0, 0, 0, 99, 0), (454, 1, 0, .aload_n 0, 0, 0, 0, 99, 0), (455, 1, 0, .aload_n 0, 0, 0, 0, 99, 0), (456, 1, 0, .aload_n 0, 0, 0, 0, 99, 0), (457, 1, 0, .iload_n 3, 0, 0, 0, 99, 0), (458, 2, 0, .bipush 99, 0, 0, 0, 99, 0), (460, 3, 4, .invokestatic 14, 252, 3, 1, 3, 180), (463, 2, 0, .bipush 48, 0, 0, 0, 99, 0), (465, 1, 0, .aload_n 1, 0, 0, 0, 99, 0), (466, 2, 0, .bipush 40, 0, 0, 0, 99, 0), (468, 1, 0, .iconst 3, 0, 0, 0, 99, 0), (469, 2, 0, .iload 5, 0, 0, 0, 99, 0), (471, 1, 1, .imul, 0, 0, 0, 99, 0), (472, 1, 1, .iadd, 0, 0, 0, 99, 0), (473, 1, 3, .iaload, 0, 0, 0, 99, 0), (474, 1, 1, .iadd, 0, 0, 0, 99, 0)]
def pgL_house_5 : List (Nat × Nat × z_En) := [(475, 3, 4, .invokestatic 14, 252, 3, 1, 3, 180), (478, 2, 0, .bipush 64, 0, 0, 0, 99, 0), (480, 3, 4, .invokestatic 14, 252, 3, 1, 3, 180), (483, 1, 0, .istore_n 3, 0, 0, 0, 99, 0), (484, 1, 0, .aload_n 0, 0, 0, 0, 99, 0), (485, 1, 0, .aload_n 0, 0, 0, 0, 99, 0), (486, 1, 0, .aload_n 0, 0, 0, 0, 99, 0), (487, 1, 0, .iload_n 3, 0, 0, 0, 99, 0), (488, 1, 0, .aload_n 1, 0, 0, 0, 99, 0), (489, 2, 0, .bipush 41, 0, 0, 0, 99, 0), (491, 1, 0, .iconst 3, 0, 0, 0, 99, 0), (492, 2, 0, .iload 5, 0, 0, 0, 99, 0), (494, 1, 1, .imul, 0, 0, 0, 99, 0), (495, 1, 1, .iadd, 0, 0, 0, 99, 0), (496, 1, 3, .iaload, 0, 0, 0, 99, 0), (497, 3, 4, .invokestatic 27, 253, 3, 1, 3, 192), (500, 2, 0, .bipush 45, 0, 0, 0, 99, 0), (502, 3, 4, .invokestatic 14, 252, 3, 1, 3, 180), (505, 1, 0, .aload_n 1, 0, 0, 0, 99, 0), (506, 2, 0, .bipush 42, 0, 0, 0, 99, 0), (508, 1, 0, .iconst 3, 0, 0, 0, 99, 0), (509, 2, 0, .iload 5, 0, 0, 0, 99, 0), (511, 1, 1, .imul, 0, 0, 0, 99, 0), (512, 1, 1, .iadd, 0, 0, 0, 99, 0), (513, 1, 3, .iaload, 0, 0, 0, 99, 0), (514, 3, 4, .invokestatic 27, 253, 3, 1, 3, 192), (517, 1, 0, .istore_n 3, 0, 0, 0, 99, 0), (518, 3, 0, .iinc 5 1, 0, 0, 0, 99, 0), (521, 3, 2, .goto (-75), 0, 0, 0, 99, 0), (524, 1, 0, .iload_n 3, 0, 0, 0, 99, 0), (525, 3, 2, .ifCond .le 28, 0, 0, 0, 99, 0), (528, 1, 0, .aload_n 0, 0, 0, 0, 99, 0), (529, 1, 0, .iconst 3, 0, 0, 0, 99, 0), (530, 3, 4, .invokevirtual 30, 95, 2, 0, 3, 195), (533, 2, 0, .bipush (-9), 0, 0, 0, 99, 0), (535, 3, 2, .if_icmp .ne 18, 0, 0, 0, 99, 0), (538, 1, 0, .aload_n 0, 0, 0, 0, 99, 0), (539, 1, 0, .iconst 3, 0, 0, 0, 99, 0), (540, 3, 4, .invokevirtual 34, 96, 2, 0, 4, 37), (543, 1, 0, .aload_n 1, 0, 0, 0, 99, 0), (544, 1, 0, .iconst 2, 0, 0, 0, 99, 0), (545, 1, 3, .iaload, 0, 0, 0, 99, 0), (546, 3, 2, .if_icmp .ne 7, 0, 0, 0, 99, 0), (549, 1, 0, .iconst 1, 0, 0, 0, 99, 0), (550, 3, 2, .goto 4, 0, 0, 0, 99, 0), (553, 1, 0, .iconst 0, 0, 0, 0, 99, 0), (554, 1, 2, .ireturn, 0, 0, 3, 99, 0)]
def pgL_house : List (Nat × Nat × z_En) := pgL_house_0 ++ (pgL_house_1 ++ (pgL_house_2 ++ (pgL_house_3 ++ (pgL_house_4 ++ (pgL_house_5)))))
def pgX0 : List (List (Nat × Nat × z_En)) := [pgX0_init, pgX0_clear, pgX0_hasPart, pgX0_hasReader, pgX0_hasWant, pgX0_ofPart, pgX0_ofReader, pgX0_ofWant, pgX0_addPart, pgX0_addReader, pgX0_addWant, pgX0_forbid, pgX0_cover, pgX0_wantOf, pgX0_worthAt, pgX0_coveredFrom, pgX0_comesAfter, pgX0_latestBegin]
def pgX1 : List (List (Nat × Nat × z_En)) := [pgX1_init, pgX1_take, pgX1_look, pgX1_takeSign, pgX1_figure, pgX1_takeFigure, pgX1_takeMinute, pgX1_takeLast, pgX1_takePart, pgX1_takeReader, pgX1_takeWant, pgX1_takeNot, pgX1_takeCushion]
def pgX2 : List (List (Nat × Nat × z_En)) := [pgX2_init, pgX2_clear, pgX2_become, pgX2_isBegunAhead, pgX2_begunAhead, pgX2_isReadIn, pgX2_lossOf, pgX2_lossOfAll, pgX2_lossBy, pgX2_firstWrong, pgX2_firstWrongOf, pgX2_isCrowded, pgX2_isInOrder]
def pgX3 : List (List (Nat × Nat × z_En)) := [pgX3_init, pgX3_go, pgX3_pick, pgX3_pickByCard, pgX3_pickNext, pgX3_pickDear, pgX3_pickShort, pgX3_firstOf, pgX3_mayBegin, pgX3_isThrough, pgX3_freeCopy, pgX3_begin, pgX3_letGo]
def pgX4 : List (List (Nat × Nat × z_En)) := [pgX4_init, pgX4_isCard, pgX4_isOf, pgX4_beginCard, pgX4_nextCard, pgX4_swap]
def pgX5 : List (List (Nat × Nat × z_En)) := [pgX5_init, pgX5_start, pgX5_keep, pgX5_add, pgX5_go, pgX5_grow, pgX5_weigh, pgX5_hope, pgX5_worst, pgX5_isNext, pgX5_earliest, pgX5_firstCopy, pgX5_place, pgX5_takeBack, pgX5_miss]
def pgX6 : List (List (Nat × Nat × z_En)) := [pgX6_init, pgX6_has, pgX6_isMissing, pgX6_lackAt, pgX6_spans, pgX6_begin, pgX6_there, pgX6_digestOn]
def pgX7 : List (List (Nat × Nat × z_En)) := [pgX7_init, pgX7_row, pgX7_lay, pgX7_at, pgX7_tear, pgX7_copy, pgX7_mean, pgX7_text, pgX7_put, pgX7_fault, pgX7_house, pgX7_part, pgX7_reader, pgX7_want, pgX7_copies, pgX7_post, pgX7_late, pgX7_read, pgX7_judge, pgX7_missed, pgX7_who, pgX7_can, pgX7_image, pgX7_on, pgX7_rule, pgX7_mark, pgX7_run, pgX7_best, pgX7_least, pgX7_mend, pgX7_soon, pgX7_even, pgX7_bound, pgX7_quarrel, pgX7_twice, pgX7_asked, pgX7_count, pgX7_finding, pgX7_findings, pgX7_digest, pgX7_found, pgX7_isBeginning, pgX7_ofWant, pgX7_lackOfCard, pgX7_rulesThere, pgX7_searchAll, pgX7_canAllHaveAll, pgX7_keepAhead, pgX7_digestOfHouse]
def pgX8 : List (List (Nat × Nat × z_En)) := [pgX8_init, pgX8_in, pgX8_has, pgX8_bits, pgX8_greater, pgX8_meets, pgX8_finding, pgX8_findings, pgX8_tells, pgX8_asked, pgX8_isRow, pgX8_rowAt, pgX8_row, pgX8_lay, pgX8_at, pgX8_tear, pgX8_copy, pgX8_mean, pgX8_isText, pgX8_text, pgX8_put, pgX8_byteAt, pgX8_sign, pgX8_figure, pgX8_minute, pgX8_readsLast, pgX8_readsPart, pgX8_readsReader, pgX8_readsWant, pgX8_readsNot, pgX8_readsCushion, pgX8_readsItem, pgX8_faultOf, pgX8_fault, pgX8_house, pgX8_isPart, pgX8_isReader, pgX8_isWant, pgX8_readerOf, pgX8_partOf, pgX8_minutesOf, pgX8_copiesOf, pgX8_comesAt, pgX8_from, pgX8_till, pgX8_isInOrder, pgX8_isNotAfter, pgX8_isUnder, pgX8_part, pgX8_readerTells, pgX8_reader, pgX8_wantTells, pgX8_want, pgX8_copies, pgX8_post, pgX8_late, pgX8_isRead, pgX8_endOf, pgX8_isReading, pgX8_read, pgX8_readingMany, pgX8_doesRead, pgX8_isDue, pgX8_isSpoilt, pgX8_isWell, pgX8_firstBad, pgX8_judge, pgX8_worthAt, pgX8_missedOf, pgX8_missed, pgX8_who, pgX8_can, pgX8_image, pgX8_on, pgX8_isRule, pgX8_rule, pgX8_markOf, pgX8_mark, pgX8_hasAll, pgX8_takenMany, pgX8_may, pgX8_firstOf, pgX8_waitsSince, pgX8_chosen, pgX8_runs, pgX8_run, pgX8_keep, pgX8_back, pgX8_layCard, pgX8_best, pgX8_copyEnd, pgX8_freeCopy, pgX8_isNext, pgX8_letsAll, pgX8_places, pgX8_missedLooked, pgX8_worst, pgX8_lastEnd, pgX8_visit, pgX8_search, pgX8_begins, pgX8_allWants, pgX8_least, pgX8_mend, pgX8_soon, pgX8_even, pgX8_bound, pgX8_canAll, pgX8_quarrel, pgX8_twice, pgX8_counted, pgX8_count, pgX8_mix, pgX8_mixHouse, pgX8_digest]
def pgL : List (List (Nat × Nat × z_En)) := [pgL_law, pgL_cell, pgL_put, pgL_number, pgL_numbers, pgL_house]
def z_pgl : List (List (Nat × Nat × z_En)) := pgX0 ++ pgX1 ++ pgX2 ++ pgX3 ++ pgX4 ++ pgX5 ++ pgX6 ++ pgX7 ++ pgX8 ++ pgL
def z_pg (x : Nat) : List (Nat × Nat × z_En) := match z_pgl[x]? with
  | some l => l
  | none => []
end
section
/-! RUNS: so many steps, calls so deep; their limit; its equation; unfolding by a bounded number of steps -/
abbrev z_Pg : Type := List (Nat × Nat × z_En)
def z_gt : z_Pg → Nat → Option z_En
  | [], _ => none
  | q :: r, pc => match Nat.beq q.1 pc with
    | true => some q.2.2
    | false => z_gt r pc
def z_rn (sc : z_Sc) (C : z_C) (L : z_Pg) : Nat → z_K
  | 0 => fun _ _ _ _ => none
  | n + 1 => fun pc ls st h => z_st sc C (z_rn sc C L n) (z_gt L pc) pc ls st h
def z_lay : List z_V → z_Ls
  | [] => []
  | .inr (.inr v) :: r => some (z_vl v) :: none :: z_lay r
  | v :: r => some v :: z_lay r
def z_ent (as : List z_V) (n : Nat) : z_Ls := z_lay as ++ List.replicate (n - (z_lay as).length) none
def z_ca (P : Nat → z_Pg) (sc : z_Sc) (n : Nat) : Nat → z_C
  | 0 => fun _ _ _ => none
  | d + 1 => fun M as h => z_gd (Nat.ble (z_lay as).length (z_ml M)) (z_rn sc (z_ca P sc n d) (P M) n 0 (z_ent as (z_ml M)) [] h)
noncomputable def z_lim (f : Nat → z_O) : z_O := @dite _ (∃ n r, f n = some r) (Classical.propDecidable _) (fun h => some h.choose_spec.choose) (fun _ => none)
/-- what a call so deep answers; what a run of a method's rows, its calls so deep, comes to -/
noncomputable def z_se (P : Nat → z_Pg) (sc : z_Sc) (d : Nat) : z_C := fun M as h => z_lim (fun n => z_ca P sc n d M as h)
noncomputable def z_ev (P : Nat → z_Pg) (sc : z_Sc) (d : Nat) (L : z_Pg) : z_K := fun pc ls st h => z_lim (fun n => z_rn sc (z_ca P sc n d) L n pc ls st h)
theorem z_mono_add {f : Nat → z_O} (hm : ∀ n r, f n = some r → f (n + 1) = some r) : ∀ (k n : Nat) (r : z_R), f n = some r → f (n + k) = some r
  | 0, _, _, h => h
  | k + 1, n, r, h => hm _ _ (z_mono_add hm k n r h)
theorem z_mono_le {f : Nat → z_O} (hm : ∀ n r, f n = some r → f (n + 1) = some r) {n k : Nat} {r : z_R} (hk : n ≤ k) (h : f n = some r) : f k = some r := by
  have := z_mono_add hm (k - n) n r h
  rwa [show n + (k - n) = k by omega] at this
theorem z_lim_some {f : Nat → z_O} (hm : ∀ n r, f n = some r → f (n + 1) = some r) (r : z_R) : z_lim f = some r ↔ ∃ n, f n = some r := by
  unfold z_lim
  by_cases h : ∃ n r, f n = some r
  · rw [dif_pos h]
    have h1 := h.choose_spec.choose_spec
    constructor
    · intro e
      cases e
      exact ⟨_, h1⟩
    · rintro ⟨n, hn⟩
      have a := z_mono_le hm (Nat.le_max_left n h.choose) hn
      have b := z_mono_le hm (Nat.le_max_right n h.choose) h1
      rw [a] at b
      cases b
      rfl
  · rw [dif_neg h]
    constructor
    · intro e
      cases e
    · rintro ⟨n, hn⟩
      exact absurd ⟨n, r, hn⟩ h
/-! what an instruction does, whatever goes on behind it -/
abbrev z_A : Type := Option ((Nat × z_Ls × List z_V × z_Hp) ⊕ (z_R ⊕ (Nat × List z_V × z_Hp × Nat × Nat × z_Ls × List z_V)))
def z_do (a : z_A) (C : z_C) (K : z_K) : z_O := match a with
  | none => none
  | some (.inl s) => K s.1 s.2.1 s.2.2.1 s.2.2.2
  | some (.inr (.inl r)) => some r
  | some (.inr (.inr s)) => z_rt s.2.2.2.1 (C s.1 s.2.1 s.2.2.1) K s.2.2.2.2.1 s.2.2.2.2.2.1 s.2.2.2.2.2.2
def z_ge (h : z_Hp) (a : z_A) : Prop := match a with
  | none => True
  | some (.inl s) => h.1 ≤ s.2.2.2.1
  | some (.inr (.inl r)) => h.1 ≤ r.2.1
  | some (.inr (.inr s)) => h.1 ≤ s.2.2.1.1
def z_Fm (h : z_Hp) (f : z_C → z_K → z_O) : Prop := ∃ a : z_A, (∀ C K, f C K = z_do a C K) ∧ z_ge h a
theorem fm_none {h : z_Hp} : z_Fm h (fun _ _ => none) := ⟨none, fun _ _ => rfl, trivial⟩
theorem fm_some {h : z_Hp} {r : z_R} (hr : h.1 ≤ r.2.1) : z_Fm h (fun _ _ => some r) := ⟨some (.inr (.inl r)), fun _ _ => rfl, hr⟩
theorem fm_K {h h' : z_Hp} {pc : Nat} {ls : z_Ls} {st : List z_V} (hh : h.1 ≤ h'.1) : z_Fm h (fun _ K => K pc ls st h') := ⟨some (.inl (pc, ls, st, h')), fun _ _ => rfl, hh⟩
theorem fm_rt {h h' : z_Hp} {q x pc : Nat} {as : List z_V} {ls : z_Ls} {r : List z_V} (hh : h.1 ≤ h'.1) : z_Fm h (fun C K => z_rt q (C x as h') K pc ls r) := ⟨some (.inr (.inr (x, as, h', q, pc, ls, r))), fun _ _ => rfl, hh⟩
theorem fm_gd {h : z_Hp} {b : Bool} {f : z_C → z_K → z_O} (hf : z_Fm h f) : z_Fm h (fun C K => z_gd b (f C K)) := by
  cases b
  · exact fm_none
  · exact hf
theorem fm_sg {h : z_Hp} {b : Bool} {f : z_C → z_K → z_O} (hf : z_Fm h f) : z_Fm h (fun C K => z_sg b (f C K)) := by
  cases b
  · exact fm_none
  · exact hf
theorem fm_ite {h : z_Hp} {c : Prop} [i : Decidable c] {f g : z_C → z_K → z_O} (hf : z_Fm h f) (hg : z_Fm h g) : z_Fm h (fun C K => if c then f C K else g C K) := by
  by_cases q : c
  · simp only [if_pos q]
    exact hf
  · simp only [if_neg q]
    exact hg
theorem fm_ldi {h : z_Hp} {ls : z_Ls} {k : Nat} {f : Int32 → z_C → z_K → z_O} (hf : ∀ x, z_Fm h (f x)) : z_Fm h (fun C K => z_ldi ls k (fun x => f x C K)) := by
  unfold z_ldi
  rcases ls[k]? with _ | _ | x | x | x
  · exact fm_none
  · exact fm_none
  · exact hf x
  · exact fm_none
  · exact fm_none
theorem fm_ldr {h : z_Hp} {ls : z_Ls} {k : Nat} {f : Nat → z_C → z_K → z_O} (hf : ∀ x, z_Fm h (f x)) : z_Fm h (fun C K => z_ldr ls k (fun x => f x C K)) := by
  unfold z_ldr
  rcases ls[k]? with _ | _ | x | x | x
  · exact fm_none
  · exact fm_none
  · exact fm_none
  · exact hf x
  · exact fm_none
theorem fm_ldl {h : z_Hp} {ls : z_Ls} {k : Nat} {f : Int64 → z_C → z_K → z_O} (hf : ∀ x, z_Fm h (f x)) : z_Fm h (fun C K => z_ldl ls k (fun x => f x C K)) := by
  unfold z_ldl
  rcases ls[k]? with _ | _ | x | x | x
  · exact fm_none
  · exact fm_none
  · exact fm_none
  · exact fm_none
  · exact hf x
theorem fm_pi {h : z_Hp} {st : List z_V} {f : Int32 → List z_V → z_C → z_K → z_O} (hf : ∀ x r, z_Fm h (f x r)) : z_Fm h (fun C K => z_pi st (fun x r => f x r C K)) := by
  unfold z_pi
  rcases st with _ | ⟨x | x | x, r⟩
  · exact fm_none
  · exact hf x r
  · exact fm_none
  · exact fm_none
theorem fm_pr {h : z_Hp} {st : List z_V} {f : Nat → List z_V → z_C → z_K → z_O} (hf : ∀ x r, z_Fm h (f x r)) : z_Fm h (fun C K => z_pr st (fun x r => f x r C K)) := by
  unfold z_pr
  rcases st with _ | ⟨x | x | x, r⟩
  · exact fm_none
  · exact fm_none
  · exact hf x r
  · exact fm_none
theorem fm_pl {h : z_Hp} {st : List z_V} {f : Int64 → List z_V → z_C → z_K → z_O} (hf : ∀ x r, z_Fm h (f x r)) : z_Fm h (fun C K => z_pl st (fun x r => f x r C K)) := by
  unfold z_pl
  rcases st with _ | ⟨x | x | x, r⟩
  · exact fm_none
  · exact fm_none
  · exact fm_none
  · exact hf x r
theorem fm_rc {h h' : z_Hp} {as : List z_V} {c : Nat} {f : z_C → z_K → z_O} (hf : z_Fm h f) : z_Fm h (fun C K => z_rc h' as c (f C K)) := by
  unfold z_rc
  rcases as with _ | ⟨x | x | x, r⟩
  · exact fm_none
  · exact fm_none
  · exact fm_gd hf
  · exact fm_none
theorem fm_br {h : z_Hp} {c : Jvm.ClassFile.Cond} {x y : Int32} {f g : z_C → z_K → z_O} (hf : z_Fm h f) (hg : z_Fm h g) : z_Fm h (fun C K => z_br c x y (f C K) (g C K)) := by
  unfold z_br
  cases c
  · exact fm_ite hf hg
  · exact fm_ite hg hf
  · exact fm_ite hf hg
  · exact fm_ite hg hf
  · exact fm_ite hf hg
  · exact fm_ite hg hf
theorem fm_sw {h : z_Hp} {ls : z_Ls} {st : List z_V} {pc : Nat} {x : Int32} {d : Int} : ∀ l : List (Int × Int), z_Fm h (fun _ K => z_sw (fun p => K p ls st h) pc x d l)
  | [] => fm_K (Nat.le_refl _)
  | q :: r => by
    unfold z_sw
    exact fm_ite (fm_K (Nat.le_refl _)) (fm_sw r)
theorem z_fm0 (ins : Jvm.ClassFile.Instr) (x y pc : Nat) (ls : z_Ls) (st : List z_V) (h : z_Hp) : z_Fm h (fun _ K => z_i0 K ins x y pc ls st h) := by
  unfold z_i0
  split
  all_goals first
    | exact fm_none
    | exact fm_K (Nat.le_refl _)
    | exact fm_ldi fun _ => fm_K (Nat.le_refl _)
    | exact fm_ldi fun _ => fm_sg (fm_K (Nat.le_refl _))
    | exact fm_ldr fun _ => fm_K (Nat.le_refl _)
    | exact fm_ldl fun _ => fm_K (Nat.le_refl _)
    | exact fm_pi fun _ _ => fm_sg (fm_K (Nat.le_refl _))
    | exact fm_pr fun _ _ => fm_sg (fm_K (Nat.le_refl _))
    | exact fm_pl fun _ _ => fm_sg (fm_K (Nat.le_refl _))
    | (split <;> first | exact fm_none | exact fm_K (Nat.le_refl _) | exact fm_sg (fm_K (Nat.le_refl _)))
theorem z_fm1 (ins : Jvm.ClassFile.Instr) (pc : Nat) (ls : z_Ls) (st : List z_V) (h : z_Hp) : z_Fm h (fun _ K => z_i1 K ins pc ls st h) := by
  unfold z_i1
  split
  all_goals first
    | exact fm_none
    | exact fm_pi fun _ _ => fm_K (Nat.le_refl _)
    | exact fm_pl fun _ _ => fm_K (Nat.le_refl _)
    | exact fm_pi fun _ _ => fm_pi fun _ _ => fm_K (Nat.le_refl _)
    | exact fm_pi fun _ _ => fm_pi fun _ _ => fm_gd (fm_K (Nat.le_refl _))
    | exact fm_pl fun _ _ => fm_pl fun _ _ => fm_K (Nat.le_refl _)
    | exact fm_pl fun _ _ => fm_pl fun _ _ => fm_gd (fm_K (Nat.le_refl _))
    | exact fm_pi fun _ _ => fm_pl fun _ _ => fm_K (Nat.le_refl _)
theorem z_fm2 (ins : Jvm.ClassFile.Instr) (z pc : Nat) (ls : z_Ls) (st : List z_V) (h : z_Hp) : z_Fm h (fun _ K => z_i2 K ins z pc ls st h) := by
  unfold z_i2
  split
  all_goals first
    | exact fm_none
    | exact fm_K (Nat.le_refl _)
    | exact fm_pi fun _ _ => fm_pi fun _ _ => fm_br (fm_K (Nat.le_refl _)) (fm_K (Nat.le_refl _))
    | exact fm_pi fun _ _ => fm_br (fm_K (Nat.le_refl _)) (fm_K (Nat.le_refl _))
    | exact fm_pi fun _ _ => fm_sw _
    | (split <;> first | exact fm_none | exact fm_some (Nat.le_refl _) | (split <;> first | exact fm_gd (fm_some (Nat.le_refl _)) | exact fm_some (Nat.le_refl _)))
theorem z_fm3 (sc : z_Sc) (ins : Jvm.ClassFile.Instr) (x y z pc : Nat) (ls : z_Ls) (st : List z_V) (h : z_Hp) : z_Fm h (fun _ K => z_i3 sc K ins x y z pc ls st h) := by
  have hn : h.1 ≤ (z_nw h).1 := Nat.le_succ _
  have hm : ∀ n, h.1 ≤ (z_nwm h n).1 := fun n => by show h.1 ≤ h.1 + 1 + n; omega
  unfold z_i3
  split
  all_goals first
    | exact fm_none
    | exact fm_gd (fm_K hn)
    | exact fm_pr fun _ _ => fm_gd (fm_K (Nat.le_refl _))
    | exact fm_pi fun _ _ => fm_gd (fm_K hn)
    | exact fm_pi fun _ _ => fm_pr fun _ _ => fm_gd (fm_K (Nat.le_refl _))
    | exact fm_pi fun _ _ => fm_pi fun _ _ => fm_pr fun _ _ => fm_gd (fm_K (Nat.le_refl _))
    | exact fm_pl fun _ _ => fm_pi fun _ _ => fm_pr fun _ _ => fm_gd (fm_K (Nat.le_refl _))
    | exact fm_pr fun _ _ => fm_pi fun _ _ => fm_pr fun _ _ => fm_gd (fm_K (Nat.le_refl _))
    | exact fm_pi fun _ _ => fm_pi fun _ _ => fm_gd (fm_K (hm _))
    | (split <;> first
        | exact fm_pi fun _ _ => fm_pr fun _ _ => fm_gd (fm_K (Nat.le_refl _))
        | exact fm_pr fun _ _ => fm_pr fun _ _ => fm_gd (fm_K (Nat.le_refl _))
        | exact fm_pl fun _ _ => fm_pr fun _ _ => fm_gd (fm_K (Nat.le_refl _))
        | exact fm_pi fun _ _ => fm_pi fun _ _ => fm_pr fun _ _ => fm_gd (fm_K (Nat.le_refl _))
        | exact fm_pr fun _ _ => fm_gd (fm_K (Nat.le_refl _)))
theorem z_fm4 (x y z pc : Nat) (ls : z_Ls) (st : List z_V) (h : z_Hp) : z_Fm h (fun C K => z_i4 C K x y z pc ls st h) := by
  unfold z_i4
  split
  · exact fm_sg (fm_rt (Nat.le_refl _))
  · exact fm_pi fun _ _ => fm_pi fun _ _ => fm_sg (fm_K (Nat.le_refl _))
  · exact fm_pi fun _ _ => fm_pi fun _ _ => fm_sg (fm_K (Nat.le_refl _))
  · exact fm_pi fun _ _ => fm_pi fun _ _ => fm_pr fun _ _ => fm_pi fun _ _ => fm_pr fun _ _ => fm_sg (fm_gd (fm_K (Nat.le_refl _)))
  · exact fm_pr fun _ _ => fm_sg (fm_gd (fm_K (Nat.le_refl _)))
  · exact fm_sg (fm_rc (fm_rt (Nat.le_refl _)))
theorem z_fm (sc : z_Sc) (en : Option z_En) (pc : Nat) (ls : z_Ls) (st : List z_V) (h : z_Hp) : z_Fm h (fun C K => z_st sc C K en pc ls st h) := by
  unfold z_st
  rcases en with _ | ⟨g, ins, x, y, z, t, i⟩
  · exact fm_none
  · dsimp only
    split
    · exact z_fm0 ins x y pc ls st h
    · exact z_fm1 ins pc ls st h
    · exact z_fm2 ins z pc ls st h
    · exact z_fm3 sc ins x y z pc ls st h
    · exact z_fm4 x y z pc ls st h
end
section
/-! the runs grow with their steps; the limit's equation -/
def z_leC (C D : z_C) : Prop := ∀ M as h r, C M as h = some r → D M as h = some r
def z_leK (C D : z_K) : Prop := ∀ pc ls st h r, C pc ls st h = some r → D pc ls st h = some r
theorem z_rt_le {q pc : Nat} {o o' : z_O} {K K' : z_K} {ls : z_Ls} {st : List z_V} (ho : ∀ r, o = some r → o' = some r) (hK : z_leK K K') {r : z_R} (h : z_rt q o K pc ls st = some r) : z_rt q o' K' pc ls st = some r := by
  unfold z_rt z_ci z_cl z_cv at h ⊢
  rcases o with _ | ⟨_ | x | x | x, h1⟩
  · split at h <;> cases h
  · rw [ho _ rfl]
    split at h
    · cases h
    · cases h
    · exact hK _ _ _ _ _ h
  · rw [ho _ rfl]
    split at h
    · exact hK _ _ _ _ _ h
    · cases h
    · cases h
  · rw [ho _ rfl]
    split at h <;> cases h
  · rw [ho _ rfl]
    split at h
    · cases h
    · exact hK _ _ _ _ _ h
    · cases h
theorem z_do_le {a : z_A} {C C' : z_C} {K K' : z_K} (hC : z_leC C C') (hK : z_leK K K') {r : z_R} (h : z_do a C K = some r) : z_do a C' K' = some r := by
  rcases a with _ | ⟨s | s | s⟩
  · exact h
  · exact hK _ _ _ _ _ h
  · exact h
  · exact z_rt_le (fun r hr => hC _ _ _ _ hr) hK h
theorem z_st_le {sc : z_Sc} {en : Option z_En} {C C' : z_C} {K K' : z_K} (hC : z_leC C C') (hK : z_leK K K') {pc : Nat} {ls : z_Ls} {st : List z_V} {h : z_Hp} {r : z_R} (hr : z_st sc C K en pc ls st h = some r) : z_st sc C' K' en pc ls st h = some r := by
  obtain ⟨a, ha, -⟩ := z_fm sc en pc ls st h
  have h1 := ha C K
  have h2 := ha C' K'
  dsimp only at h1 h2
  rw [h1] at hr
  rw [h2]
  exact z_do_le hC hK hr
theorem z_rn_C {sc : z_Sc} {C C' : z_C} (hC : z_leC C C') (L : z_Pg) : ∀ n, z_leK (z_rn sc C L n) (z_rn sc C' L n)
  | 0 => fun _ _ _ _ _ h => h
  | n + 1 => fun _ _ _ _ _ h => z_st_le hC (z_rn_C hC L n) h
theorem z_rn_s {sc : z_Sc} {C : z_C} (L : z_Pg) : ∀ n, z_leK (z_rn sc C L n) (z_rn sc C L (n + 1))
  | 0 => fun _ _ _ _ _ h => by cases h
  | n + 1 => fun _ _ _ _ _ h => z_st_le (fun _ _ _ _ h => h) (z_rn_s L n) h
theorem z_ca_s {P : Nat → z_Pg} {sc : z_Sc} (n : Nat) : ∀ d, z_leC (z_ca P sc n d) (z_ca P sc (n + 1) d)
  | 0 => fun _ _ _ _ h => h
  | d + 1 => fun M as _ _ h => by
    unfold z_ca at h ⊢
    cases hb : Nat.ble (z_lay as).length (z_ml M)
    · rw [hb] at h
      cases h
    · rw [hb] at h
      exact z_rn_C (z_ca_s n d) _ _ _ _ _ _ _ (z_rn_s _ n _ _ _ _ _ h)
theorem z_run_s {P : Nat → z_Pg} {sc : z_Sc} {d : Nat} {L : z_Pg} (n : Nat) : z_leK (z_rn sc (z_ca P sc n d) L n) (z_rn sc (z_ca P sc (n + 1) d) L (n + 1)) := fun _ _ _ _ _ h => z_rn_C (z_ca_s n d) L _ _ _ _ _ _ (z_rn_s L n _ _ _ _ _ h)
theorem z_se_iff {P : Nat → z_Pg} {sc : z_Sc} {d M : Nat} {as : List z_V} {h : z_Hp} {r : z_R} : z_se P sc d M as h = some r ↔ ∃ n, z_ca P sc n d M as h = some r := z_lim_some (fun n r hr => z_ca_s n d _ _ _ _ hr) r
theorem z_ev_iff {P : Nat → z_Pg} {sc : z_Sc} {d : Nat} {L : z_Pg} {pc : Nat} {ls : z_Ls} {st : List z_V} {h : z_Hp} {r : z_R} : z_ev P sc d L pc ls st h = some r ↔ ∃ n, z_rn sc (z_ca P sc n d) L n pc ls st h = some r := z_lim_some (fun n r hr => z_run_s n _ _ _ _ _ hr) r
theorem z_o_ext {a b : z_O} (h : ∀ r, a = some r ↔ b = some r) : a = b := by
  rcases a with _ | a
  · rcases b with _ | b
    · rfl
    · exact ((h b).mpr rfl)
  · exact ((h a).mp rfl).symm
theorem z_ca_le {P : Nat → z_Pg} {sc : z_Sc} {n k d : Nat} (hk : n ≤ k) : z_leC (z_ca P sc n d) (z_ca P sc k d) := fun M as h r hr => z_mono_le (f := fun n => z_ca P sc n d M as h) (fun n r hr => z_ca_s n d _ _ _ _ hr) hk hr
theorem z_rn_le {P : Nat → z_Pg} {sc : z_Sc} {L : z_Pg} {n k d : Nat} (hk : n ≤ k) : z_leK (z_rn sc (z_ca P sc n d) L n) (z_rn sc (z_ca P sc k d) L k) := fun pc ls st h r hr => z_mono_le (f := fun n => z_rn sc (z_ca P sc n d) L n pc ls st h) (fun n r hr => z_run_s n _ _ _ _ _ hr) hk hr
/-- what is reached in the limit of the calls and of what goes on is reached at some number of steps -/
theorem z_do_lim {P : Nat → z_Pg} {sc : z_Sc} {d : Nat} {L : z_Pg} {a : z_A} {r : z_R} (h : z_do a (z_se P sc d) (z_ev P sc d L) = some r) : ∃ n, z_do a (z_ca P sc n d) (z_rn sc (z_ca P sc n d) L n) = some r := by
  rcases a with _ | ⟨s | s | s⟩
  · cases h
  · exact z_ev_iff.mp h
  · exact ⟨0, h⟩
  · obtain ⟨x, as, h0, q, pc, ls, st⟩ := s
    show ∃ n, z_rt q (z_ca P sc n d x as h0) (z_rn sc (z_ca P sc n d) L n) pc ls st = some r
    have h' : z_rt q (z_se P sc d x as h0) (z_ev P sc d L) pc ls st = some r := h
    rcases ho : z_se P sc d x as h0 with _ | ⟨v, h1⟩
    · rw [ho] at h'
      unfold z_rt z_ci z_cl z_cv at h'
      split at h' <;> cases h'
    · obtain ⟨n1, hn1⟩ := z_se_iff.mp ho
      rw [ho] at h'
      have key : ∃ n2, z_rt q (some (v, h1)) (z_rn sc (z_ca P sc n2 d) L n2) pc ls st = some r := by
        unfold z_rt z_ci z_cl z_cv at h' ⊢
        split at h' <;> split at h' <;> first | exact z_ev_iff.mp h' | cases h' | skip
        all_goals (rename_i he; cases he; exact z_ev_iff.mp h')
      obtain ⟨n2, hn2⟩ := key
      refine ⟨max n1 n2, ?_⟩
      refine z_rt_le (o := some (v, h1)) (fun r hr => ?_) (z_rn_le (Nat.le_max_right n1 n2)) hn2
      rw [← hr]
      exact z_ca_le (Nat.le_max_left n1 n2) _ _ _ _ hn1
/-- THE EQUATION -/
theorem z_ev_eq (P : Nat → z_Pg) (sc : z_Sc) (d : Nat) (L : z_Pg) (pc : Nat) (ls : z_Ls) (st : List z_V) (h : z_Hp) : z_ev P sc d L pc ls st h = z_st sc (z_se P sc d) (z_ev P sc d L) (z_gt L pc) pc ls st h := by
  obtain ⟨a, ha, -⟩ := z_fm sc (z_gt L pc) pc ls st h
  have e : ∀ C K, z_st sc C K (z_gt L pc) pc ls st h = z_do a C K := ha
  refine z_o_ext fun r => ⟨fun hr => ?_, fun hr => ?_⟩
  · obtain ⟨n, hn⟩ := z_ev_iff.mp hr
    cases n with
    | zero => cases hn
    | succ n =>
      have h1 : z_st sc (z_ca P sc (n + 1) d) (z_rn sc (z_ca P sc (n + 1) d) L n) (z_gt L pc) pc ls st h = some r := hn
      refine z_st_le (fun _ _ _ _ q => z_se_iff.mpr ⟨_, q⟩) (fun pc ls st h r q => z_ev_iff.mpr ⟨n + 1, z_rn_s L n _ _ _ _ _ q⟩) h1
  · rw [e] at hr
    obtain ⟨n, hn⟩ := z_do_lim hr
    refine z_ev_iff.mpr ⟨n + 1, ?_⟩
    show z_st sc (z_ca P sc (n + 1) d) (z_rn sc (z_ca P sc (n + 1) d) L n) (z_gt L pc) pc ls st h = some r
    rw [e]
    exact z_do_le (z_ca_s n d) (z_rn_C (z_ca_s n d) L n) hn
theorem z_se_eq (P : Nat → z_Pg) (sc : z_Sc) (d M : Nat) (as : List z_V) (h : z_Hp) (hb : Nat.ble (z_lay as).length (z_ml M) = true) : z_se P sc (d + 1) M as h = z_ev P sc d (P M) 0 (z_ent as (z_ml M)) [] h := by
  show z_lim (fun n => z_gd (Nat.ble (z_lay as).length (z_ml M)) (z_rn sc (z_ca P sc n d) (P M) n 0 (z_ent as (z_ml M)) [] h)) = _
  rw [hb]
  rfl
/-- so many steps unfolded, but not beyond the places that are named -/
def z_has (l : List Nat) (k : Nat) : Bool := match l with
  | [] => false
  | x :: r => match Nat.beq x k with
    | true => true
    | false => z_has r k
def z_un (sc : z_Sc) (C : z_C) (E : z_K) (L : z_Pg) (stops : List Nat) : Nat → z_K
  | 0 => E
  | k + 1 => fun pc ls st h => z_st sc C (fun pc' ls' st' h' => match z_has stops pc' with
    | true => E pc' ls' st' h'
    | false => z_un sc C E L stops k pc' ls' st' h') (z_gt L pc) pc ls st h
theorem z_un_eq (P : Nat → z_Pg) (sc : z_Sc) (d : Nat) (L : z_Pg) (stops : List Nat) : ∀ (k pc : Nat) (ls : z_Ls) (st : List z_V) (h : z_Hp), z_ev P sc d L pc ls st h = z_un sc (z_se P sc d) (z_ev P sc d L) L stops k pc ls st h
  | 0, _, _, _, _ => rfl
  | k + 1, pc, ls, st, h => by
    rw [z_ev_eq]
    unfold z_un
    congr 1
    funext pc' ls' st' h'
    split
    · rfl
    · exact z_un_eq P sc d L stops k pc' ls' st' h'
/-- the cells' number never falls -/
theorem z_do_ge {h0 : z_Hp} {a : z_A} (hg : z_ge h0 a) {C : z_C} {K : z_K} (hC : ∀ M as h r, C M as h = some r → h.1 ≤ r.2.1) (hK : ∀ pc ls st h r, K pc ls st h = some r → h.1 ≤ r.2.1) {r : z_R} (h : z_do a C K = some r) : h0.1 ≤ r.2.1 := by
  rcases a with _ | ⟨s | s | s⟩
  · cases h
  · exact Nat.le_trans hg (hK _ _ _ _ _ h)
  · cases h
    exact hg
  · obtain ⟨x, as, h1, q, pc, ls, st⟩ := s
    have h' : z_rt q (C x as h1) K pc ls st = some r := h
    have hg' : h0.1 ≤ h1.1 := hg
    rcases ho : C x as h1 with _ | ⟨v, h2⟩
    · rw [ho] at h'
      unfold z_rt z_ci z_cl z_cv at h'
      split at h' <;> cases h'
    · have h3 : h1.1 ≤ h2.1 := hC _ _ _ _ ho
      rw [ho] at h'
      have h4 : h2.1 ≤ r.2.1 := by
        unfold z_rt z_ci z_cl z_cv at h'
        split at h' <;> split at h' <;> first | exact hK _ _ _ _ _ h' | cases h' | skip
        all_goals (rename_i he; cases he; exact hK _ _ _ _ _ h')
      omega
theorem z_rn_ge {sc : z_Sc} {C : z_C} {L : z_Pg} (hC : ∀ M as h r, C M as h = some r → h.1 ≤ r.2.1) : ∀ n pc ls st h r, z_rn sc C L n pc ls st h = some r → h.1 ≤ r.2.1
  | 0, _, _, _, _, _, q => by cases q
  | n + 1, pc, ls, st, h, r, q => by
    obtain ⟨a, ha, hg⟩ := z_fm sc (z_gt L pc) pc ls st h
    have e : ∀ C K, z_st sc C K (z_gt L pc) pc ls st h = z_do a C K := ha
    have q' : z_st sc C (z_rn sc C L n) (z_gt L pc) pc ls st h = some r := q
    rw [e] at q'
    exact z_do_ge hg hC (z_rn_ge hC n) q'
theorem z_ca_ge {P : Nat → z_Pg} {sc : z_Sc} {n : Nat} : ∀ d M as h r, z_ca P sc n d M as h = some r → h.1 ≤ r.2.1
  | 0, _, _, _, _, q => by cases q
  | d + 1, M, as, _, _, q => by
    unfold z_ca at q
    cases hb : Nat.ble (z_lay as).length (z_ml M)
    · rw [hb] at q
      cases q
    · rw [hb] at q
      exact z_rn_ge (z_ca_ge d) _ _ _ _ _ _ q
end
section
/-! THE CHECKS: the program's rows are what the code decodes to, and their words stand in the tables (positions by wip/p42/gen/chk.py) -/
def z_tb (t : Nat) : List Jvm.Cond := match t with
  | 0 => k2_sels lw_privs
  | 1 => tables_1_1
  | 2 => tables_1_2
  | 3 => tables_1_3
  | 4 => tables_1_4
  | _ => []
def z_wp (q : Nat × Nat) : Option Jvm.Cond := (z_tb q.1)[q.2]?
def z_W : List Jvm.Cond := lw_tbl.filter goodWord
theorem z_wp_in {q : Nat × Nat} {w : Jvm.Cond} (h : z_wp q = some w) : w ∈ lw_tbl := by
  obtain ⟨t, i⟩ := q
  have hm : w ∈ z_tb t := List.mem_of_getElem? h
  unfold lw_tbl tables_1
  unfold z_tb at hm
  split at hm
  · exact List.mem_append_left _ hm
  · exact List.mem_append_right _ (List.mem_append_left _ hm)
  · exact List.mem_append_right _ (List.mem_append_right _ (List.mem_append_left _ hm))
  · exact List.mem_append_right _ (List.mem_append_right _ (List.mem_append_right _ (List.mem_append_left _ hm)))
  · exact List.mem_append_right _ (List.mem_append_right _ (List.mem_append_right _ (List.mem_append_right _ hm)))
  · cases hm
theorem z_wp_W {q : Nat × Nat} {w : Jvm.Cond} (h : z_wp q = some w) (hg : goodWord w = true) : w ∈ z_W := List.mem_filter.mpr ⟨z_wp_in h, hg⟩
theorem z_in_ps {ws : List Jvm.Cond} (ps : List (Nat × Nat)) (h : ws.map some = ps.map z_wp) (hg : ws.all goodWord = true) : ∀ w ∈ ws, w ∈ z_W := fun w hw => by
  have h1 : some w ∈ ps.map z_wp := by rw [← h]; exact List.mem_map_of_mem hw
  obtain ⟨q, -, hq⟩ := List.mem_map.mp h1
  exact z_wp_W hq (List.all_eq_true.mp hg w hw)
def z_cC (c : Nat) : String := match c with
  | 0 => RX0
  | 1 => RX1
  | 2 => RX2
  | 3 => RX3
  | 4 => RX4
  | 5 => RX5
  | 6 => RX6
  | 7 => RX7
  | _ => ""
def z_cT (c : Nat) : u_T := match c with
  | 0 => TX0
  | 1 => TX1
  | 2 => TX2
  | 3 => TX3
  | 4 => TX4
  | 5 => TX5
  | 6 => TX6
  | 7 => TX7
  | _ => TX0
def z_cN (c : Nat) : Nat := match c with
  | 0 => 19
  | 1 => 7
  | 2 => 1
  | 3 => 7
  | 4 => 2
  | 5 => 17
  | 6 => 2
  | 7 => 14
  | _ => 0
def z_cY (c : Nat) : (Nat → FieldType) := match c with
  | 0 => tyX0
  | 1 => tyX1
  | 2 => tyX2
  | 3 => tyX3
  | 4 => tyX4
  | 5 => tyX5
  | 6 => tyX6
  | 7 => tyX7
  | _ => tyX0
theorem z_lays0 : ∀ w ∈ u_ws RX0 TX0 19, w ∈ z_W := z_in_ps [(2, 12), (2, 14), (2, 16), (2, 18), (2, 20), (2, 22), (2, 24), (2, 26), (2, 28), (2, 30), (2, 32), (2, 34), (2, 36), (2, 38), (2, 40), (2, 42), (2, 44), (2, 46), (2, 48)] (by decide +kernel) (by decide +kernel)
theorem z_lays1 : ∀ w ∈ u_ws RX1 TX1 7, w ∈ z_W := z_in_ps [(1, 50), (1, 52), (1, 54), (1, 56), (1, 58), (1, 60), (1, 62)] (by decide +kernel) (by decide +kernel)
theorem z_lays2 : ∀ w ∈ u_ws RX2 TX2 1, w ∈ z_W := z_in_ps [(1, 74)] (by decide +kernel) (by decide +kernel)
theorem z_lays3 : ∀ w ∈ u_ws RX3 TX3 7, w ∈ z_W := z_in_ps [(1, 108), (1, 110), (1, 112), (1, 114), (1, 116), (1, 118), (1, 120)] (by decide +kernel) (by decide +kernel)
theorem z_lays4 : ∀ w ∈ u_ws RX4 TX4 2, w ∈ z_W := z_in_ps [(1, 90), (1, 92)] (by decide +kernel) (by decide +kernel)
theorem z_lays5 : ∀ w ∈ u_ws RX5 TX5 17, w ∈ z_W := z_in_ps [(1, 149), (1, 151), (1, 153), (1, 155), (1, 157), (1, 159), (1, 161), (1, 163), (1, 165), (1, 167), (1, 169), (1, 171), (1, 173), (1, 175), (1, 177), (1, 179), (1, 181)] (by decide +kernel) (by decide +kernel)
theorem z_lays6 : ∀ w ∈ u_ws RX6 TX6 2, w ∈ z_W := z_in_ps [(1, 31), (1, 33)] (by decide +kernel) (by decide +kernel)
theorem z_lays7 : ∀ w ∈ u_ws RX7 TX7 14, w ∈ z_W := z_in_ps [(2, 67), (2, 69), (2, 71), (2, 73), (2, 75), (2, 77), (2, 79), (2, 81), (2, 83), (2, 85), (2, 87), (2, 89), (2, 91), (2, 93)] (by decide +kernel) (by decide +kernel)
theorem z_cOK (c : Nat) (hc : c < 8) : vwCl[c]? = some (z_cC c, z_cT c, z_cN c) ∧ (∀ w ∈ u_ws (z_cC c) (z_cT c) (z_cN c), w ∈ z_W) ∧ (∀ k, k < z_cN c → parseFieldDescriptor (z_cT c k).2.2.1 = some (z_cY c k)) ∧ (∀ a, a < z_cN c → ∀ b, b < z_cN c → a ≠ b → (z_cT c a).2.1 ≠ (z_cT c b).2.1) := by
  match c, hc with
  | 0, _ => exact ⟨rfl, z_lays0, tyX0_ok, nmX0⟩
  | 1, _ => exact ⟨rfl, z_lays1, tyX1_ok, nmX1⟩
  | 2, _ => exact ⟨rfl, z_lays2, tyX2_ok, nmX2⟩
  | 3, _ => exact ⟨rfl, z_lays3, tyX3_ok, nmX3⟩
  | 4, _ => exact ⟨rfl, z_lays4, tyX4_ok, nmX4⟩
  | 5, _ => exact ⟨rfl, z_lays5, tyX5_ok, nmX5⟩
  | 6, _ => exact ⟨rfl, z_lays6, tyX6_ok, nmX6⟩
  | 7, _ => exact ⟨rfl, z_lays7, tyX7_ok, nmX7⟩
def z_yM (x : Nat) : MethodName := match z_mY[x]? with
  | some q => q.1
  | none => yL_law
def z_bM (x : Nat) : ByteArray := match z_mY[x]? with
  | some q => q.2.1
  | none => cL_law
def z_rM (x : Nat) : Option FieldType := match z_mY[x]? with
  | some q => q.2.2
  | none => none
def z_kM (x : Nat) : Nat := z_mk.getD x 9
def z_lkM (x : Nat) : (Nat × Nat) × (Nat × Nat) × (Nat × Nat) × (Nat × Nat) := z_mP.getD x ((99, 0), (99, 0), (99, 0), (99, 0))
/-- the host of the nest -/
def z_host : String := "PaperRound"
/-- the word that a row of the program needs -/
def z_wd (own : String) (ins : Jvm.ClassFile.Instr) (x y z : Nat) : Option Jvm.Cond := match ins with
  | .getfield n => some (.fieldLink own n (z_cC x) (z_cT x y).2.1 (z_cT x y).2.2.1)
  | .putfield n => some (.fieldLink own n (z_cC x) (z_cT x y).2.1 (z_cT x y).2.2.1)
  | .new n => some (.classLink own n (z_cC x))
  | .anewarray n => some (.classLink own n RX4)
  | .multianewarray n _ => some (.classLink own n "[[I")
  | .ldc n => some (.constant own n (Int32.ofInt (z_sn x y)))
  | .ldc2_w n => some (.constantLong own n (Int64.ofInt (z_sn x y)))
  | .invokevirtual n => some (.methodLink own n (z_yM x))
  | .invokestatic n => match z with
    | 10 => some (.methodLink own n Lib.Math.max.name)
    | 11 => some (.methodLink own n Lib.Math.min.name)
    | 12 => some (.methodLink own n arraycopyName)
    | _ => some (.methodLink own n (z_yM x))
  | .invokespecial n => match z with
    | 13 => some (.methodLink own n objectInit)
    | 3 => some (.methodLinkNest own n (z_yM x) z_host)
    | _ => some (.methodLink own n (z_yM x))
  | _ => none
def z_tgo (pc : Nat) (o : Int) : Bool := decide (0 ≤ (pc : Int) + o)
def z_i32 (v : Int) : Bool := decide (-2147483648 ≤ v) && decide (v < 2147483648)
/-- what a row's own numbers must be -/
def z_sok (M : Nat) (pc len : Nat) (g : Nat) (ins : Jvm.ClassFile.Instr) (x y z : Nat) : Bool := match ins with
  | .iload _ => Nat.beq len 2 && Nat.beq g 0
  | .iload_n _ => Nat.beq len 1 && Nat.beq g 0
  | .aload _ => Nat.beq len 2 && Nat.beq g 0
  | .aload_n _ => Nat.beq len 1 && Nat.beq g 0
  | .lload_n _ => Nat.beq len 1 && Nat.beq g 0
  | .istore _ => Nat.beq len 2 && Nat.beq g 0
  | .istore_n _ => Nat.beq len 1 && Nat.beq g 0
  | .astore _ => Nat.beq len 2 && Nat.beq g 0
  | .astore_n _ => Nat.beq len 1 && Nat.beq g 0
  | .lstore_n _ => Nat.beq len 1 && Nat.beq g 0
  | .iinc _ _ => Nat.beq len 3 && Nat.beq g 0
  | .iconst _ => Nat.beq len 1 && Nat.beq g 0
  | .bipush _ => Nat.beq len 2 && Nat.beq g 0
  | .sipush _ => Nat.beq len 3 && Nat.beq g 0
  | .lconst _ => Nat.beq len 1 && Nat.beq g 0
  | .ldc _ => Nat.beq len 2 && Nat.beq g 0
  | .ldc2_w _ => Nat.beq len 3 && Nat.beq g 0
  | .pop => Nat.beq len 1 && Nat.beq g 0
  | .dup => Nat.beq len 1 && Nat.beq g 0
  | .dup2 => Nat.beq len 1 && Nat.beq g 0
  | .iadd => Nat.beq len 1 && Nat.beq g 1
  | .isub => Nat.beq len 1 && Nat.beq g 1
  | .imul => Nat.beq len 1 && Nat.beq g 1
  | .iand => Nat.beq len 1 && Nat.beq g 1
  | .ior => Nat.beq len 1 && Nat.beq g 1
  | .ixor => Nat.beq len 1 && Nat.beq g 1
  | .ishl => Nat.beq len 1 && Nat.beq g 1
  | .ishr => Nat.beq len 1 && Nat.beq g 1
  | .idiv => Nat.beq len 1 && Nat.beq g 1
  | .irem => Nat.beq len 1 && Nat.beq g 1
  | .ineg => Nat.beq len 1 && Nat.beq g 1
  | .i2l => Nat.beq len 1 && Nat.beq g 1
  | .i2b => Nat.beq len 1 && Nat.beq g 1
  | .l2i => Nat.beq len 1 && Nat.beq g 1
  | .ladd => Nat.beq len 1 && Nat.beq g 1
  | .lmul => Nat.beq len 1 && Nat.beq g 1
  | .land => Nat.beq len 1 && Nat.beq g 1
  | .lor => Nat.beq len 1 && Nat.beq g 1
  | .ldiv => Nat.beq len 1 && Nat.beq g 1
  | .lshl => Nat.beq len 1 && Nat.beq g 1
  | .lshr => Nat.beq len 1 && Nat.beq g 1
  | .lcmp => Nat.beq len 1 && Nat.beq g 1
  | .if_icmp _ o => Nat.beq len 3 && Nat.beq g 2 && z_tgo pc o
  | .ifCond _ o => Nat.beq len 3 && Nat.beq g 2 && z_tgo pc o
  | .goto o => Nat.beq len 3 && Nat.beq g 2 && z_tgo pc o
  | .tableswitch d lo hi os => Nat.beq g 2 && z_tgo pc d && os.toList.all (z_tgo pc) && z_i32 lo && z_i32 hi && decide (hi = lo + (os.size : Int) - 1)
  | .lookupswitch d ps => Nat.beq g 2 && z_tgo pc d && ps.toList.all (fun q => z_tgo pc q.2 && z_i32 q.1) && (ps.toList.zip (ps.toList.drop 1)).all (fun (a, next) => a.1 < next.1)
  | .ireturn => Nat.beq len 1 && Nat.beq g 2 && (match z with
    | 3 => decide (z_rM M = some .boolean)
    | 0 => decide (z_rM M = some .int)
    | _ => false)
  | .lreturn => Nat.beq len 1 && Nat.beq g 2 && decide (z_rM M = some .long)
  | .return_ => Nat.beq len 1 && Nat.beq g 2 && decide (z_rM M = none)
  | .getfield _ => Nat.beq len 3 && Nat.beq g 3 && Nat.blt x 8 && Nat.blt y (z_cN x) && Nat.beq z (z_fk x y)
  | .putfield _ => Nat.beq len 3 && Nat.beq g 3 && Nat.blt x 8 && Nat.blt y (z_cN x) && Nat.beq z (z_fk x y) && (!(z_cT x y).2.2.2 || (decide ((z_yM M).name = "<init>") && decide ((z_cT x y).1 = (z_yM M).cls)))
  | .iaload => Nat.beq len 1 && Nat.beq g 3
  | .baload => Nat.beq len 1 && Nat.beq g 3 && Nat.beq x 13
  | .laload => Nat.beq len 1 && Nat.beq g 3
  | .aaload => Nat.beq len 1 && Nat.beq g 3 && (Nat.beq x 14 || Nat.beq x 15)
  | .iastore => Nat.beq len 1 && Nat.beq g 3
  | .bastore => Nat.beq len 1 && Nat.beq g 3 && Nat.beq x 13
  | .lastore => Nat.beq len 1 && Nat.beq g 3
  | .aastore => Nat.beq len 1 && Nat.beq g 3
  | .arraylength => Nat.beq len 1 && Nat.beq g 3 && (match x with
    | 1 => true
    | 10 => true
    | _ => false)
  | .new _ => Nat.beq len 3 && Nat.beq g 3 && Nat.blt x 8
  | .newarray a => Nat.beq len 2 && Nat.beq g 3 && (match a with
    | .int => Nat.beq x 10
    | .long => Nat.beq x 11
    | .boolean => Nat.beq x 13
    | _ => false)
  | .anewarray _ => Nat.beq len 3 && Nat.beq g 3
  | .multianewarray _ q => Nat.beq len 4 && Nat.beq g 3 && Nat.beq q 2
  | .invokevirtual _ => Nat.beq len 3 && Nat.beq g 4 && Nat.beq z 0 && Nat.beq (z_kM x) 0 && Nat.beq y (z_mn x) && z_lk x
  | .invokestatic _ => Nat.beq len 3 && Nat.beq g 4 && (match z with
    | 10 => true
    | 11 => true
    | 12 => true
    | 1 => Nat.beq (z_kM x) 1 && Nat.beq y (z_mn x) && z_lk x
    | _ => false)
  | .invokespecial _ => Nat.beq len 3 && Nat.beq g 4 && (match z with
    | 13 => true
    | 2 => Nat.beq (z_kM x) 2 && Nat.beq y (z_mn x) && z_lk x
    | 3 => Nat.beq (z_kM x) 2 && Nat.beq y (z_mn x) && z_lk x
    | _ => false)
  | _ => false
/-- a row of the program holds -/
def z_eck (M : Nat) (q : Nat × Nat × z_En) : Bool := match q with
  | (pc, len, g, ins, x, y, z, t, i) => decide (decode (z_bM M) pc = .ok (ins, len)) && (z_sok M pc len g ins x y z && decide (z_wp (t, i) = z_wd (z_yM M).cls ins x y z))
/-- a method's words hold -/
def z_mcw (x : Nat) : Prop := z_wp (z_lkM x).1 = some (.code (z_yM x) (z_bM x) (z_ml x) (z_rM x))
def z_mck (x : Nat) : Bool :=
  (decide (z_wp (z_lkM x).2.1 = some (match z_kM x with
    | 1 => .static (z_yM x)
    | _ => .instanceMethod (z_yM x))) && ((match z_kM x with
    | 0 => decide (z_wp (z_lkM x).2.2.1 = some (.selects (z_yM x).cls (z_yM x) (z_yM x)))
    | 1 => true
    | 2 => decide ((z_yM x).name = "<init>") && decide (z_rM x = none)
    | _ => false) && (decide (z_wp (z_lkM x).2.2.2 = some (.initialized (z_yM x).cls)) && (decide ((parseMethodDescriptor (z_yM x).desc).map (fun d => d.parameters.length) = some (match z_kM x with
    | 1 => z_mn x
    | _ => z_mn x - 1)) && (decide ((z_yM x).cls ≠ "java/lang/invoke/MethodHandle") && (decide ((z_yM x).cls ≠ "java/lang/invoke/VarHandle") && (plainName (z_yM x).cls && (Nat.ble (z_ml x) 45 && ((match z_mr x with
    | 0 => decide (z_rM x = some .int) || decide (z_rM x = some .boolean)
    | 1 => decide (z_rM x = some .long)
    | 2 => decide (z_rM x = none)
    | _ => false) && (match z_kM x with
    | 1 => true
    | _ => decide (z_cC (z_mc x) = (z_yM x).cls) && Nat.blt (z_mc x) 8 && Nat.blt 0 (z_mn x)))))))))))
end
section
/-! THE CHECKS RUN, method by method (wip/p42/gen/ck.py) -/
theorem ckX0_init : pgX0_init.all (z_eck 0) = true := by decide +kernel
theorem ckX0_clear : pgX0_clear.all (z_eck 1) = true := by decide +kernel
theorem ckX0_hasPart : pgX0_hasPart.all (z_eck 2) = true := by decide +kernel
theorem ckX0_hasReader : pgX0_hasReader.all (z_eck 3) = true := by decide +kernel
theorem ckX0_addPart : pgX0_addPart.all (z_eck 8) = true := by decide +kernel
theorem ckX0_addReader : pgX0_addReader.all (z_eck 9) = true := by decide +kernel
theorem ckX0_addWant : pgX0_addWant.all (z_eck 10) = true := by decide +kernel
theorem ckX0_forbid : pgX0_forbid.all (z_eck 11) = true := by decide +kernel
theorem ckX0_cover : pgX0_cover.all (z_eck 12) = true := by decide +kernel
theorem ckX0_wantOf : pgX0_wantOf.all (z_eck 13) = true := by decide +kernel
theorem ckX0_worthAt : pgX0_worthAt.all (z_eck 14) = true := by decide +kernel
theorem ckX0_coveredFrom : pgX0_coveredFrom.all (z_eck 15) = true := by decide +kernel
theorem ckX0_comesAfter : pgX0_comesAfter.all (z_eck 16) = true := by decide +kernel
theorem ckX0_latestBegin : pgX0_latestBegin.all (z_eck 17) = true := by decide +kernel
theorem ckX1_init : pgX1_init.all (z_eck 18) = true := by decide +kernel
theorem ckX1_take : pgX1_take.all (z_eck 19) = true := by decide +kernel
theorem ckX1_look : pgX1_look.all (z_eck 20) = true := by decide +kernel
theorem ckX1_takeSign : pgX1_takeSign.all (z_eck 21) = true := by decide +kernel
theorem ckX1_figure : pgX1_figure.all (z_eck 22) = true := by decide +kernel
theorem ckX1_takeFigure : pgX1_takeFigure.all (z_eck 23) = true := by decide +kernel
theorem ckX1_takeMinute : pgX1_takeMinute.all (z_eck 24) = true := by decide +kernel
theorem ckX1_takeLast : pgX1_takeLast.all (z_eck 25) = true := by decide +kernel
theorem ckX1_takePart : pgX1_takePart.all (z_eck 26) = true := by decide +kernel
theorem ckX1_takeReader : pgX1_takeReader.all (z_eck 27) = true := by decide +kernel
theorem ckX1_takeWant : pgX1_takeWant.all (z_eck 28) = true := by decide +kernel
theorem ckX1_takeNot : pgX1_takeNot.all (z_eck 29) = true := by decide +kernel
theorem ckX1_takeCushion : pgX1_takeCushion.all (z_eck 30) = true := by decide +kernel
theorem ckX2_init : pgX2_init.all (z_eck 31) = true := by decide +kernel
theorem ckX2_clear : pgX2_clear.all (z_eck 32) = true := by decide +kernel
theorem ckX2_become : pgX2_become.all (z_eck 33) = true := by decide +kernel
theorem ckX2_isBegunAhead : pgX2_isBegunAhead.all (z_eck 34) = true := by decide +kernel
theorem ckX2_begunAhead : pgX2_begunAhead.all (z_eck 35) = true := by decide +kernel
theorem ckX2_isReadIn : pgX2_isReadIn.all (z_eck 36) = true := by decide +kernel
theorem ckX2_lossOf : pgX2_lossOf.all (z_eck 37) = true := by decide +kernel
theorem ckX2_lossOfAll : pgX2_lossOfAll.all (z_eck 38) = true := by decide +kernel
theorem ckX2_lossBy : pgX2_lossBy.all (z_eck 39) = true := by decide +kernel
theorem ckX2_firstWrong : pgX2_firstWrong.all (z_eck 40) = true := by decide +kernel
theorem ckX2_firstWrongOf : pgX2_firstWrongOf.all (z_eck 41) = true := by decide +kernel
theorem ckX2_isCrowded : pgX2_isCrowded.all (z_eck 42) = true := by decide +kernel
theorem ckX2_isInOrder : pgX2_isInOrder.all (z_eck 43) = true := by decide +kernel
theorem ckX3_init : pgX3_init.all (z_eck 44) = true := by decide +kernel
theorem ckX3_go : pgX3_go.all (z_eck 45) = true := by decide +kernel
theorem ckX3_pick : pgX3_pick.all (z_eck 46) = true := by decide +kernel
theorem ckX3_pickByCard : pgX3_pickByCard.all (z_eck 47) = true := by decide +kernel
theorem ckX3_pickNext : pgX3_pickNext.all (z_eck 48) = true := by decide +kernel
theorem ckX3_pickDear : pgX3_pickDear.all (z_eck 49) = true := by decide +kernel
theorem ckX3_pickShort : pgX3_pickShort.all (z_eck 50) = true := by decide +kernel
theorem ckX3_firstOf : pgX3_firstOf.all (z_eck 51) = true := by decide +kernel
theorem ckX3_mayBegin : pgX3_mayBegin.all (z_eck 52) = true := by decide +kernel
theorem ckX3_isThrough : pgX3_isThrough.all (z_eck 53) = true := by decide +kernel
theorem ckX3_freeCopy : pgX3_freeCopy.all (z_eck 54) = true := by decide +kernel
theorem ckX3_begin : pgX3_begin.all (z_eck 55) = true := by decide +kernel
theorem ckX3_letGo : pgX3_letGo.all (z_eck 56) = true := by decide +kernel
theorem ckX4_init : pgX4_init.all (z_eck 57) = true := by decide +kernel
theorem ckX4_beginCard : pgX4_beginCard.all (z_eck 60) = true := by decide +kernel
theorem ckX4_nextCard : pgX4_nextCard.all (z_eck 61) = true := by decide +kernel
theorem ckX4_swap : pgX4_swap.all (z_eck 62) = true := by decide +kernel
theorem ckX5_init : pgX5_init.all (z_eck 63) = true := by decide +kernel
theorem ckX5_start : pgX5_start.all (z_eck 64) = true := by decide +kernel
theorem ckX5_keep : pgX5_keep.all (z_eck 65) = true := by decide +kernel
theorem ckX5_add : pgX5_add.all (z_eck 66) = true := by decide +kernel
theorem ckX5_go : pgX5_go.all (z_eck 67) = true := by decide +kernel
theorem ckX5_grow : pgX5_grow.all (z_eck 68) = true := by decide +kernel
theorem ckX5_weigh : pgX5_weigh.all (z_eck 69) = true := by decide +kernel
theorem ckX5_hope : pgX5_hope.all (z_eck 70) = true := by decide +kernel
theorem ckX5_worst : pgX5_worst.all (z_eck 71) = true := by decide +kernel
theorem ckX5_isNext : pgX5_isNext.all (z_eck 72) = true := by decide +kernel
theorem ckX5_earliest : pgX5_earliest.all (z_eck 73) = true := by decide +kernel
theorem ckX5_firstCopy : pgX5_firstCopy.all (z_eck 74) = true := by decide +kernel
theorem ckX5_place : pgX5_place.all (z_eck 75) = true := by decide +kernel
theorem ckX5_takeBack : pgX5_takeBack.all (z_eck 76) = true := by decide +kernel
theorem ckX5_miss : pgX5_miss.all (z_eck 77) = true := by decide +kernel
theorem ckX6_init : pgX6_init.all (z_eck 78) = true := by decide +kernel
theorem ckX6_has : pgX6_has.all (z_eck 79) = true := by decide +kernel
theorem ckX6_isMissing : pgX6_isMissing.all (z_eck 80) = true := by decide +kernel
theorem ckX6_lackAt : pgX6_lackAt.all (z_eck 81) = true := by decide +kernel
theorem ckX6_begin : pgX6_begin.all (z_eck 83) = true := by decide +kernel
theorem ckX7_init : pgX7_init.all (z_eck 86) = true := by decide +kernel
theorem ckX7_text : pgX7_text.all (z_eck 93) = true := by decide +kernel
theorem ckX7_put : pgX7_put.all (z_eck 94) = true := by decide +kernel
theorem ckX7_fault : pgX7_fault.all (z_eck 95) = true := by decide +kernel
theorem ckX7_house : pgX7_house.all (z_eck 96) = true := by decide +kernel
theorem ckX7_copies : pgX7_copies.all (z_eck 100) = true := by decide +kernel
theorem ckX7_late : pgX7_late.all (z_eck 102) = true := by decide +kernel
theorem ckX7_judge : pgX7_judge.all (z_eck 104) = true := by decide +kernel
theorem ckX7_missed : pgX7_missed.all (z_eck 105) = true := by decide +kernel
theorem ckX7_image : pgX7_image.all (z_eck 108) = true := by decide +kernel
theorem ckX7_on : pgX7_on.all (z_eck 109) = true := by decide +kernel
theorem ckX7_rule : pgX7_rule.all (z_eck 110) = true := by decide +kernel
theorem ckX7_run : pgX7_run.all (z_eck 112) = true := by decide +kernel
theorem ckX7_best : pgX7_best.all (z_eck 113) = true := by decide +kernel
theorem ckX7_least : pgX7_least.all (z_eck 114) = true := by decide +kernel
theorem ckX7_mend : pgX7_mend.all (z_eck 115) = true := by decide +kernel
theorem ckX7_soon : pgX7_soon.all (z_eck 116) = true := by decide +kernel
theorem ckX7_even : pgX7_even.all (z_eck 117) = true := by decide +kernel
theorem ckX7_bound : pgX7_bound.all (z_eck 118) = true := by decide +kernel
theorem ckX7_quarrel : pgX7_quarrel.all (z_eck 119) = true := by decide +kernel
theorem ckX7_asked : pgX7_asked.all (z_eck 121) = true := by decide +kernel
theorem ckX7_found : pgX7_found.all (z_eck 126) = true := by decide +kernel
theorem ckX7_isBeginning : pgX7_isBeginning.all (z_eck 127) = true := by decide +kernel
theorem ckX7_lackOfCard : pgX7_lackOfCard.all (z_eck 129) = true := by decide +kernel
theorem ckX7_searchAll : pgX7_searchAll.all (z_eck 131) = true := by decide +kernel
theorem ckX7_canAllHaveAll : pgX7_canAllHaveAll.all (z_eck 132) = true := by decide +kernel
theorem ckX7_keepAhead : pgX7_keepAhead.all (z_eck 133) = true := by decide +kernel
theorem ckL_law_0 : pgL_law_0.all (z_eck 250) = true := by decide +kernel
theorem ckL_law_1 : pgL_law_1.all (z_eck 250) = true := by decide +kernel
theorem ckL_law_2 : pgL_law_2.all (z_eck 250) = true := by decide +kernel
theorem ckL_law_3 : pgL_law_3.all (z_eck 250) = true := by decide +kernel
theorem ckL_law_4 : pgL_law_4.all (z_eck 250) = true := by decide +kernel
theorem ckL_law_5 : pgL_law_5.all (z_eck 250) = true := by decide +kernel
theorem ckL_law_6 : pgL_law_6.all (z_eck 250) = true := by decide +kernel
theorem ckL_law_7 : pgL_law_7.all (z_eck 250) = true := by decide +kernel
theorem ckL_law : pgL_law.all (z_eck 250) = true := by
  unfold pgL_law
  simp only [List.all_append, ckL_law_0, ckL_law_1, ckL_law_2, ckL_law_3, ckL_law_4, ckL_law_5, ckL_law_6, ckL_law_7, Bool.and_self]
theorem ckL_cell : pgL_cell.all (z_eck 251) = true := by decide +kernel
theorem ckL_put : pgL_put.all (z_eck 252) = true := by decide +kernel
theorem ckL_number : pgL_number.all (z_eck 253) = true := by decide +kernel
theorem ckL_numbers_0 : pgL_numbers_0.all (z_eck 254) = true := by decide +kernel
theorem ckL_numbers_1 : pgL_numbers_1.all (z_eck 254) = true := by decide +kernel
theorem ckL_numbers_2 : pgL_numbers_2.all (z_eck 254) = true := by decide +kernel
theorem ckL_numbers_3 : pgL_numbers_3.all (z_eck 254) = true := by decide +kernel
theorem ckL_numbers_4 : pgL_numbers_4.all (z_eck 254) = true := by decide +kernel
theorem ckL_numbers_5 : pgL_numbers_5.all (z_eck 254) = true := by decide +kernel
theorem ckL_numbers_6 : pgL_numbers_6.all (z_eck 254) = true := by decide +kernel
theorem ckL_numbers_7 : pgL_numbers_7.all (z_eck 254) = true := by decide +kernel
theorem ckL_numbers : pgL_numbers.all (z_eck 254) = true := by
  unfold pgL_numbers
  simp only [List.all_append, ckL_numbers_0, ckL_numbers_1, ckL_numbers_2, ckL_numbers_3, ckL_numbers_4, ckL_numbers_5, ckL_numbers_6, ckL_numbers_7, Bool.and_self]
theorem ckL_house_0 : pgL_house_0.all (z_eck 255) = true := by decide +kernel
theorem ckL_house_1 : pgL_house_1.all (z_eck 255) = true := by decide +kernel
theorem ckL_house_2 : pgL_house_2.all (z_eck 255) = true := by decide +kernel
theorem ckL_house_3 : pgL_house_3.all (z_eck 255) = true := by decide +kernel
theorem ckL_house_4 : pgL_house_4.all (z_eck 255) = true := by decide +kernel
theorem ckL_house_5 : pgL_house_5.all (z_eck 255) = true := by decide +kernel
theorem ckL_house : pgL_house.all (z_eck 255) = true := by
  unfold pgL_house
  simp only [List.all_append, ckL_house_0, ckL_house_1, ckL_house_2, ckL_house_3, ckL_house_4, ckL_house_5, Bool.and_self]
set_option maxRecDepth 20000 in
theorem z_mcw0 : z_mcw 0 := rfl
set_option maxRecDepth 20000 in
theorem z_mcw1 : z_mcw 1 := rfl
set_option maxRecDepth 20000 in
theorem z_mcw2 : z_mcw 2 := rfl
set_option maxRecDepth 20000 in
theorem z_mcw3 : z_mcw 3 := rfl
set_option maxRecDepth 20000 in
theorem z_mcw8 : z_mcw 8 := rfl
set_option maxRecDepth 20000 in
theorem z_mcw9 : z_mcw 9 := rfl
set_option maxRecDepth 20000 in
theorem z_mcw10 : z_mcw 10 := rfl
set_option maxRecDepth 20000 in
theorem z_mcw11 : z_mcw 11 := rfl
set_option maxRecDepth 20000 in
theorem z_mcw12 : z_mcw 12 := rfl
set_option maxRecDepth 20000 in
theorem z_mcw13 : z_mcw 13 := rfl
set_option maxRecDepth 20000 in
theorem z_mcw14 : z_mcw 14 := rfl
set_option maxRecDepth 20000 in
theorem z_mcw15 : z_mcw 15 := rfl
set_option maxRecDepth 20000 in
theorem z_mcw16 : z_mcw 16 := rfl
set_option maxRecDepth 20000 in
theorem z_mcw17 : z_mcw 17 := rfl
set_option maxRecDepth 20000 in
theorem z_mcw18 : z_mcw 18 := rfl
set_option maxRecDepth 20000 in
theorem z_mcw19 : z_mcw 19 := rfl
set_option maxRecDepth 20000 in
theorem z_mcw20 : z_mcw 20 := rfl
set_option maxRecDepth 20000 in
theorem z_mcw21 : z_mcw 21 := rfl
set_option maxRecDepth 20000 in
theorem z_mcw22 : z_mcw 22 := rfl
set_option maxRecDepth 20000 in
theorem z_mcw23 : z_mcw 23 := rfl
set_option maxRecDepth 20000 in
theorem z_mcw24 : z_mcw 24 := rfl
set_option maxRecDepth 20000 in
theorem z_mcw25 : z_mcw 25 := rfl
set_option maxRecDepth 20000 in
theorem z_mcw26 : z_mcw 26 := rfl
set_option maxRecDepth 20000 in
theorem z_mcw27 : z_mcw 27 := rfl
set_option maxRecDepth 20000 in
theorem z_mcw28 : z_mcw 28 := rfl
set_option maxRecDepth 20000 in
theorem z_mcw29 : z_mcw 29 := rfl
set_option maxRecDepth 20000 in
theorem z_mcw30 : z_mcw 30 := rfl
set_option maxRecDepth 20000 in
theorem z_mcw31 : z_mcw 31 := rfl
set_option maxRecDepth 20000 in
theorem z_mcw32 : z_mcw 32 := rfl
set_option maxRecDepth 20000 in
theorem z_mcw33 : z_mcw 33 := rfl
set_option maxRecDepth 20000 in
theorem z_mcw34 : z_mcw 34 := rfl
set_option maxRecDepth 20000 in
theorem z_mcw35 : z_mcw 35 := rfl
set_option maxRecDepth 20000 in
theorem z_mcw36 : z_mcw 36 := rfl
set_option maxRecDepth 20000 in
theorem z_mcw37 : z_mcw 37 := rfl
set_option maxRecDepth 20000 in
theorem z_mcw38 : z_mcw 38 := rfl
set_option maxRecDepth 20000 in
theorem z_mcw39 : z_mcw 39 := rfl
set_option maxRecDepth 20000 in
theorem z_mcw40 : z_mcw 40 := rfl
set_option maxRecDepth 20000 in
theorem z_mcw41 : z_mcw 41 := rfl
set_option maxRecDepth 20000 in
theorem z_mcw42 : z_mcw 42 := rfl
set_option maxRecDepth 20000 in
theorem z_mcw43 : z_mcw 43 := rfl
set_option maxRecDepth 20000 in
theorem z_mcw44 : z_mcw 44 := rfl
set_option maxRecDepth 20000 in
theorem z_mcw45 : z_mcw 45 := rfl
set_option maxRecDepth 20000 in
theorem z_mcw46 : z_mcw 46 := rfl
set_option maxRecDepth 20000 in
theorem z_mcw47 : z_mcw 47 := rfl
set_option maxRecDepth 20000 in
theorem z_mcw48 : z_mcw 48 := rfl
set_option maxRecDepth 20000 in
theorem z_mcw49 : z_mcw 49 := rfl
set_option maxRecDepth 20000 in
theorem z_mcw50 : z_mcw 50 := rfl
set_option maxRecDepth 20000 in
theorem z_mcw51 : z_mcw 51 := rfl
set_option maxRecDepth 20000 in
theorem z_mcw52 : z_mcw 52 := rfl
set_option maxRecDepth 20000 in
theorem z_mcw53 : z_mcw 53 := rfl
set_option maxRecDepth 20000 in
theorem z_mcw54 : z_mcw 54 := rfl
set_option maxRecDepth 20000 in
theorem z_mcw55 : z_mcw 55 := rfl
set_option maxRecDepth 20000 in
theorem z_mcw56 : z_mcw 56 := rfl
set_option maxRecDepth 20000 in
theorem z_mcw57 : z_mcw 57 := rfl
set_option maxRecDepth 20000 in
theorem z_mcw60 : z_mcw 60 := rfl
set_option maxRecDepth 20000 in
theorem z_mcw61 : z_mcw 61 := rfl
set_option maxRecDepth 20000 in
theorem z_mcw62 : z_mcw 62 := rfl
set_option maxRecDepth 20000 in
theorem z_mcw63 : z_mcw 63 := rfl
set_option maxRecDepth 20000 in
theorem z_mcw64 : z_mcw 64 := rfl
set_option maxRecDepth 20000 in
theorem z_mcw65 : z_mcw 65 := rfl
set_option maxRecDepth 20000 in
theorem z_mcw66 : z_mcw 66 := rfl
set_option maxRecDepth 20000 in
theorem z_mcw67 : z_mcw 67 := rfl
set_option maxRecDepth 20000 in
theorem z_mcw68 : z_mcw 68 := rfl
set_option maxRecDepth 20000 in
theorem z_mcw69 : z_mcw 69 := rfl
set_option maxRecDepth 20000 in
theorem z_mcw70 : z_mcw 70 := rfl
set_option maxRecDepth 20000 in
theorem z_mcw71 : z_mcw 71 := rfl
set_option maxRecDepth 20000 in
theorem z_mcw72 : z_mcw 72 := rfl
set_option maxRecDepth 20000 in
theorem z_mcw73 : z_mcw 73 := rfl
set_option maxRecDepth 20000 in
theorem z_mcw74 : z_mcw 74 := rfl
set_option maxRecDepth 20000 in
theorem z_mcw75 : z_mcw 75 := rfl
set_option maxRecDepth 20000 in
theorem z_mcw76 : z_mcw 76 := rfl
set_option maxRecDepth 20000 in
theorem z_mcw77 : z_mcw 77 := rfl
set_option maxRecDepth 20000 in
theorem z_mcw78 : z_mcw 78 := rfl
set_option maxRecDepth 20000 in
theorem z_mcw79 : z_mcw 79 := rfl
set_option maxRecDepth 20000 in
theorem z_mcw80 : z_mcw 80 := rfl
set_option maxRecDepth 20000 in
theorem z_mcw81 : z_mcw 81 := rfl
set_option maxRecDepth 20000 in
theorem z_mcw83 : z_mcw 83 := rfl
set_option maxRecDepth 20000 in
theorem z_mcw86 : z_mcw 86 := rfl
set_option maxRecDepth 20000 in
theorem z_mcw93 : z_mcw 93 := rfl
set_option maxRecDepth 20000 in
theorem z_mcw94 : z_mcw 94 := rfl
set_option maxRecDepth 20000 in
theorem z_mcw95 : z_mcw 95 := rfl
set_option maxRecDepth 20000 in
theorem z_mcw96 : z_mcw 96 := rfl
set_option maxRecDepth 20000 in
theorem z_mcw100 : z_mcw 100 := rfl
set_option maxRecDepth 20000 in
theorem z_mcw102 : z_mcw 102 := rfl
set_option maxRecDepth 20000 in
theorem z_mcw104 : z_mcw 104 := rfl
set_option maxRecDepth 20000 in
theorem z_mcw105 : z_mcw 105 := rfl
set_option maxRecDepth 20000 in
theorem z_mcw108 : z_mcw 108 := rfl
set_option maxRecDepth 20000 in
theorem z_mcw109 : z_mcw 109 := rfl
set_option maxRecDepth 20000 in
theorem z_mcw110 : z_mcw 110 := rfl
set_option maxRecDepth 20000 in
theorem z_mcw112 : z_mcw 112 := rfl
set_option maxRecDepth 20000 in
theorem z_mcw113 : z_mcw 113 := rfl
set_option maxRecDepth 20000 in
theorem z_mcw114 : z_mcw 114 := rfl
set_option maxRecDepth 20000 in
theorem z_mcw115 : z_mcw 115 := rfl
set_option maxRecDepth 20000 in
theorem z_mcw116 : z_mcw 116 := rfl
set_option maxRecDepth 20000 in
theorem z_mcw117 : z_mcw 117 := rfl
set_option maxRecDepth 20000 in
theorem z_mcw118 : z_mcw 118 := rfl
set_option maxRecDepth 20000 in
theorem z_mcw119 : z_mcw 119 := rfl
set_option maxRecDepth 20000 in
theorem z_mcw121 : z_mcw 121 := rfl
set_option maxRecDepth 20000 in
theorem z_mcw126 : z_mcw 126 := rfl
set_option maxRecDepth 20000 in
theorem z_mcw127 : z_mcw 127 := rfl
set_option maxRecDepth 20000 in
theorem z_mcw129 : z_mcw 129 := rfl
set_option maxRecDepth 20000 in
theorem z_mcw131 : z_mcw 131 := rfl
set_option maxRecDepth 20000 in
theorem z_mcw132 : z_mcw 132 := rfl
set_option maxRecDepth 20000 in
theorem z_mcw133 : z_mcw 133 := rfl
set_option maxRecDepth 20000 in
theorem z_mcw251 : z_mcw 251 := rfl
set_option maxRecDepth 20000 in
theorem z_mcw252 : z_mcw 252 := rfl
set_option maxRecDepth 20000 in
theorem z_mcw253 : z_mcw 253 := rfl
set_option maxRecDepth 20000 in
theorem z_mcw254 : z_mcw 254 := rfl
set_option maxRecDepth 20000 in
theorem z_mcw255 : z_mcw 255 := rfl
theorem z_mckc0 : ∀ x ∈ ([0, 1, 2, 3, 8, 9, 10, 11, 12, 13] : List Nat), z_mck x = true := fun x h => List.all_eq_true.mp (show ([0, 1, 2, 3, 8, 9, 10, 11, 12, 13] : List Nat).all z_mck = true by decide +kernel) x h
theorem z_mckc1 : ∀ x ∈ ([14, 15, 16, 17, 18, 19, 20, 21, 22, 23] : List Nat), z_mck x = true := fun x h => List.all_eq_true.mp (show ([14, 15, 16, 17, 18, 19, 20, 21, 22, 23] : List Nat).all z_mck = true by decide +kernel) x h
theorem z_mckc2 : ∀ x ∈ ([24, 25, 26, 27, 28, 29, 30, 31, 32, 33] : List Nat), z_mck x = true := fun x h => List.all_eq_true.mp (show ([24, 25, 26, 27, 28, 29, 30, 31, 32, 33] : List Nat).all z_mck = true by decide +kernel) x h
theorem z_mckc3 : ∀ x ∈ ([34, 35, 36, 37, 38, 39, 40, 41, 42, 43] : List Nat), z_mck x = true := fun x h => List.all_eq_true.mp (show ([34, 35, 36, 37, 38, 39, 40, 41, 42, 43] : List Nat).all z_mck = true by decide +kernel) x h
theorem z_mckc4 : ∀ x ∈ ([44, 45, 46, 47, 48, 49, 50, 51, 52, 53] : List Nat), z_mck x = true := fun x h => List.all_eq_true.mp (show ([44, 45, 46, 47, 48, 49, 50, 51, 52, 53] : List Nat).all z_mck = true by decide +kernel) x h
theorem z_mckc5 : ∀ x ∈ ([54, 55, 56, 57, 60, 61, 62, 63, 64, 65] : List Nat), z_mck x = true := fun x h => List.all_eq_true.mp (show ([54, 55, 56, 57, 60, 61, 62, 63, 64, 65] : List Nat).all z_mck = true by decide +kernel) x h
theorem z_mckc6 : ∀ x ∈ ([66, 67, 68, 69, 70, 71, 72, 73, 74, 75] : List Nat), z_mck x = true := fun x h => List.all_eq_true.mp (show ([66, 67, 68, 69, 70, 71, 72, 73, 74, 75] : List Nat).all z_mck = true by decide +kernel) x h
theorem z_mckc7 : ∀ x ∈ ([76, 77, 78, 79, 80, 81, 83, 86, 93, 94] : List Nat), z_mck x = true := fun x h => List.all_eq_true.mp (show ([76, 77, 78, 79, 80, 81, 83, 86, 93, 94] : List Nat).all z_mck = true by decide +kernel) x h
theorem z_mckc8 : ∀ x ∈ ([95, 96, 100, 102, 104, 105, 108, 109, 110, 112] : List Nat), z_mck x = true := fun x h => List.all_eq_true.mp (show ([95, 96, 100, 102, 104, 105, 108, 109, 110, 112] : List Nat).all z_mck = true by decide +kernel) x h
theorem z_mckc9 : ∀ x ∈ ([113, 114, 115, 116, 117, 118, 119, 121, 126, 127] : List Nat), z_mck x = true := fun x h => List.all_eq_true.mp (show ([113, 114, 115, 116, 117, 118, 119, 121, 126, 127] : List Nat).all z_mck = true by decide +kernel) x h
theorem z_mckc10 : ∀ x ∈ ([129, 131, 132, 133, 251, 252, 253, 254, 255] : List Nat), z_mck x = true := fun x h => List.all_eq_true.mp (show ([129, 131, 132, 133, 251, 252, 253, 254, 255] : List Nat).all z_mck = true by decide +kernel) x h
/-- a called method is one of these -/
def z_lkL : List Nat := [0, 1, 2, 3, 8, 9, 10, 11, 12, 13, 14, 15, 16, 17, 18, 19, 20, 21, 22, 23, 24, 25, 26, 27, 28, 29, 30, 31, 32, 33, 34, 35, 36, 37, 38, 39, 40, 41, 42, 43, 44, 45, 46, 47, 48, 49, 50, 51, 52, 53, 54, 55, 56, 57, 60, 61, 62, 63, 64, 65, 66, 67, 68, 69, 70, 71, 72, 73, 74, 75, 76, 77, 78, 79, 80, 81, 83, 86, 93, 94, 95, 96, 100, 102, 104, 105, 108, 109, 110, 112, 113, 114, 115, 116, 117, 118, 119, 121, 126, 127, 129, 131, 132, 133, 251, 252, 253, 254, 255]
theorem z_lk_in {x : Nat} (h : z_lk x = true) : x ∈ z_lkL := by
  have key : ((List.range 256).all fun x => !(z_lk x) || decide (x ∈ z_lkL)) = true := by decide +kernel
  have hx : x < 256 := by
    unfold z_lk at h
    split at h
    · rename_i b hb
      have := (List.getElem?_eq_some_iff.mp hb).1
      have e : z_lkl.length = 256 := by decide +kernel
      omega
    · cases h
  have h1 := List.all_eq_true.mp key x (List.mem_range.mpr hx)
  rw [h] at h1
  exact of_decide_eq_true h1
theorem z_mcwc0 : ∀ x ∈ ([0, 1, 2, 3, 8, 9, 10, 11, 12, 13] : List Nat), z_mcw x := List.forall_mem_cons.mpr ⟨z_mcw0, List.forall_mem_cons.mpr ⟨z_mcw1, List.forall_mem_cons.mpr ⟨z_mcw2, List.forall_mem_cons.mpr ⟨z_mcw3, List.forall_mem_cons.mpr ⟨z_mcw8, List.forall_mem_cons.mpr ⟨z_mcw9, List.forall_mem_cons.mpr ⟨z_mcw10, List.forall_mem_cons.mpr ⟨z_mcw11, List.forall_mem_cons.mpr ⟨z_mcw12, List.forall_mem_cons.mpr ⟨z_mcw13, (fun _ q => by cases q)⟩⟩⟩⟩⟩⟩⟩⟩⟩⟩
theorem z_ckc0 : ∀ x ∈ ([0, 1, 2, 3, 8, 9, 10, 11, 12, 13] : List Nat), (z_pg x).all (z_eck x) = true := List.forall_mem_cons.mpr ⟨ckX0_init, List.forall_mem_cons.mpr ⟨ckX0_clear, List.forall_mem_cons.mpr ⟨ckX0_hasPart, List.forall_mem_cons.mpr ⟨ckX0_hasReader, List.forall_mem_cons.mpr ⟨ckX0_addPart, List.forall_mem_cons.mpr ⟨ckX0_addReader, List.forall_mem_cons.mpr ⟨ckX0_addWant, List.forall_mem_cons.mpr ⟨ckX0_forbid, List.forall_mem_cons.mpr ⟨ckX0_cover, List.forall_mem_cons.mpr ⟨ckX0_wantOf, (fun _ q => by cases q)⟩⟩⟩⟩⟩⟩⟩⟩⟩⟩
theorem z_mcwc1 : ∀ x ∈ ([14, 15, 16, 17, 18, 19, 20, 21, 22, 23] : List Nat), z_mcw x := List.forall_mem_cons.mpr ⟨z_mcw14, List.forall_mem_cons.mpr ⟨z_mcw15, List.forall_mem_cons.mpr ⟨z_mcw16, List.forall_mem_cons.mpr ⟨z_mcw17, List.forall_mem_cons.mpr ⟨z_mcw18, List.forall_mem_cons.mpr ⟨z_mcw19, List.forall_mem_cons.mpr ⟨z_mcw20, List.forall_mem_cons.mpr ⟨z_mcw21, List.forall_mem_cons.mpr ⟨z_mcw22, List.forall_mem_cons.mpr ⟨z_mcw23, (fun _ q => by cases q)⟩⟩⟩⟩⟩⟩⟩⟩⟩⟩
theorem z_ckc1 : ∀ x ∈ ([14, 15, 16, 17, 18, 19, 20, 21, 22, 23] : List Nat), (z_pg x).all (z_eck x) = true := List.forall_mem_cons.mpr ⟨ckX0_worthAt, List.forall_mem_cons.mpr ⟨ckX0_coveredFrom, List.forall_mem_cons.mpr ⟨ckX0_comesAfter, List.forall_mem_cons.mpr ⟨ckX0_latestBegin, List.forall_mem_cons.mpr ⟨ckX1_init, List.forall_mem_cons.mpr ⟨ckX1_take, List.forall_mem_cons.mpr ⟨ckX1_look, List.forall_mem_cons.mpr ⟨ckX1_takeSign, List.forall_mem_cons.mpr ⟨ckX1_figure, List.forall_mem_cons.mpr ⟨ckX1_takeFigure, (fun _ q => by cases q)⟩⟩⟩⟩⟩⟩⟩⟩⟩⟩
theorem z_mcwc2 : ∀ x ∈ ([24, 25, 26, 27, 28, 29, 30, 31, 32, 33] : List Nat), z_mcw x := List.forall_mem_cons.mpr ⟨z_mcw24, List.forall_mem_cons.mpr ⟨z_mcw25, List.forall_mem_cons.mpr ⟨z_mcw26, List.forall_mem_cons.mpr ⟨z_mcw27, List.forall_mem_cons.mpr ⟨z_mcw28, List.forall_mem_cons.mpr ⟨z_mcw29, List.forall_mem_cons.mpr ⟨z_mcw30, List.forall_mem_cons.mpr ⟨z_mcw31, List.forall_mem_cons.mpr ⟨z_mcw32, List.forall_mem_cons.mpr ⟨z_mcw33, (fun _ q => by cases q)⟩⟩⟩⟩⟩⟩⟩⟩⟩⟩
theorem z_ckc2 : ∀ x ∈ ([24, 25, 26, 27, 28, 29, 30, 31, 32, 33] : List Nat), (z_pg x).all (z_eck x) = true := List.forall_mem_cons.mpr ⟨ckX1_takeMinute, List.forall_mem_cons.mpr ⟨ckX1_takeLast, List.forall_mem_cons.mpr ⟨ckX1_takePart, List.forall_mem_cons.mpr ⟨ckX1_takeReader, List.forall_mem_cons.mpr ⟨ckX1_takeWant, List.forall_mem_cons.mpr ⟨ckX1_takeNot, List.forall_mem_cons.mpr ⟨ckX1_takeCushion, List.forall_mem_cons.mpr ⟨ckX2_init, List.forall_mem_cons.mpr ⟨ckX2_clear, List.forall_mem_cons.mpr ⟨ckX2_become, (fun _ q => by cases q)⟩⟩⟩⟩⟩⟩⟩⟩⟩⟩
theorem z_mcwc3 : ∀ x ∈ ([34, 35, 36, 37, 38, 39, 40, 41, 42, 43] : List Nat), z_mcw x := List.forall_mem_cons.mpr ⟨z_mcw34, List.forall_mem_cons.mpr ⟨z_mcw35, List.forall_mem_cons.mpr ⟨z_mcw36, List.forall_mem_cons.mpr ⟨z_mcw37, List.forall_mem_cons.mpr ⟨z_mcw38, List.forall_mem_cons.mpr ⟨z_mcw39, List.forall_mem_cons.mpr ⟨z_mcw40, List.forall_mem_cons.mpr ⟨z_mcw41, List.forall_mem_cons.mpr ⟨z_mcw42, List.forall_mem_cons.mpr ⟨z_mcw43, (fun _ q => by cases q)⟩⟩⟩⟩⟩⟩⟩⟩⟩⟩
theorem z_ckc3 : ∀ x ∈ ([34, 35, 36, 37, 38, 39, 40, 41, 42, 43] : List Nat), (z_pg x).all (z_eck x) = true := List.forall_mem_cons.mpr ⟨ckX2_isBegunAhead, List.forall_mem_cons.mpr ⟨ckX2_begunAhead, List.forall_mem_cons.mpr ⟨ckX2_isReadIn, List.forall_mem_cons.mpr ⟨ckX2_lossOf, List.forall_mem_cons.mpr ⟨ckX2_lossOfAll, List.forall_mem_cons.mpr ⟨ckX2_lossBy, List.forall_mem_cons.mpr ⟨ckX2_firstWrong, List.forall_mem_cons.mpr ⟨ckX2_firstWrongOf, List.forall_mem_cons.mpr ⟨ckX2_isCrowded, List.forall_mem_cons.mpr ⟨ckX2_isInOrder, (fun _ q => by cases q)⟩⟩⟩⟩⟩⟩⟩⟩⟩⟩
theorem z_mcwc4 : ∀ x ∈ ([44, 45, 46, 47, 48, 49, 50, 51, 52, 53] : List Nat), z_mcw x := List.forall_mem_cons.mpr ⟨z_mcw44, List.forall_mem_cons.mpr ⟨z_mcw45, List.forall_mem_cons.mpr ⟨z_mcw46, List.forall_mem_cons.mpr ⟨z_mcw47, List.forall_mem_cons.mpr ⟨z_mcw48, List.forall_mem_cons.mpr ⟨z_mcw49, List.forall_mem_cons.mpr ⟨z_mcw50, List.forall_mem_cons.mpr ⟨z_mcw51, List.forall_mem_cons.mpr ⟨z_mcw52, List.forall_mem_cons.mpr ⟨z_mcw53, (fun _ q => by cases q)⟩⟩⟩⟩⟩⟩⟩⟩⟩⟩
theorem z_ckc4 : ∀ x ∈ ([44, 45, 46, 47, 48, 49, 50, 51, 52, 53] : List Nat), (z_pg x).all (z_eck x) = true := List.forall_mem_cons.mpr ⟨ckX3_init, List.forall_mem_cons.mpr ⟨ckX3_go, List.forall_mem_cons.mpr ⟨ckX3_pick, List.forall_mem_cons.mpr ⟨ckX3_pickByCard, List.forall_mem_cons.mpr ⟨ckX3_pickNext, List.forall_mem_cons.mpr ⟨ckX3_pickDear, List.forall_mem_cons.mpr ⟨ckX3_pickShort, List.forall_mem_cons.mpr ⟨ckX3_firstOf, List.forall_mem_cons.mpr ⟨ckX3_mayBegin, List.forall_mem_cons.mpr ⟨ckX3_isThrough, (fun _ q => by cases q)⟩⟩⟩⟩⟩⟩⟩⟩⟩⟩
theorem z_mcwc5 : ∀ x ∈ ([54, 55, 56, 57, 60, 61, 62, 63, 64, 65] : List Nat), z_mcw x := List.forall_mem_cons.mpr ⟨z_mcw54, List.forall_mem_cons.mpr ⟨z_mcw55, List.forall_mem_cons.mpr ⟨z_mcw56, List.forall_mem_cons.mpr ⟨z_mcw57, List.forall_mem_cons.mpr ⟨z_mcw60, List.forall_mem_cons.mpr ⟨z_mcw61, List.forall_mem_cons.mpr ⟨z_mcw62, List.forall_mem_cons.mpr ⟨z_mcw63, List.forall_mem_cons.mpr ⟨z_mcw64, List.forall_mem_cons.mpr ⟨z_mcw65, (fun _ q => by cases q)⟩⟩⟩⟩⟩⟩⟩⟩⟩⟩
theorem z_ckc5 : ∀ x ∈ ([54, 55, 56, 57, 60, 61, 62, 63, 64, 65] : List Nat), (z_pg x).all (z_eck x) = true := List.forall_mem_cons.mpr ⟨ckX3_freeCopy, List.forall_mem_cons.mpr ⟨ckX3_begin, List.forall_mem_cons.mpr ⟨ckX3_letGo, List.forall_mem_cons.mpr ⟨ckX4_init, List.forall_mem_cons.mpr ⟨ckX4_beginCard, List.forall_mem_cons.mpr ⟨ckX4_nextCard, List.forall_mem_cons.mpr ⟨ckX4_swap, List.forall_mem_cons.mpr ⟨ckX5_init, List.forall_mem_cons.mpr ⟨ckX5_start, List.forall_mem_cons.mpr ⟨ckX5_keep, (fun _ q => by cases q)⟩⟩⟩⟩⟩⟩⟩⟩⟩⟩
theorem z_mcwc6 : ∀ x ∈ ([66, 67, 68, 69, 70, 71, 72, 73, 74, 75] : List Nat), z_mcw x := List.forall_mem_cons.mpr ⟨z_mcw66, List.forall_mem_cons.mpr ⟨z_mcw67, List.forall_mem_cons.mpr ⟨z_mcw68, List.forall_mem_cons.mpr ⟨z_mcw69, List.forall_mem_cons.mpr ⟨z_mcw70, List.forall_mem_cons.mpr ⟨z_mcw71, List.forall_mem_cons.mpr ⟨z_mcw72, List.forall_mem_cons.mpr ⟨z_mcw73, List.forall_mem_cons.mpr ⟨z_mcw74, List.forall_mem_cons.mpr ⟨z_mcw75, (fun _ q => by cases q)⟩⟩⟩⟩⟩⟩⟩⟩⟩⟩
theorem z_ckc6 : ∀ x ∈ ([66, 67, 68, 69, 70, 71, 72, 73, 74, 75] : List Nat), (z_pg x).all (z_eck x) = true := List.forall_mem_cons.mpr ⟨ckX5_add, List.forall_mem_cons.mpr ⟨ckX5_go, List.forall_mem_cons.mpr ⟨ckX5_grow, List.forall_mem_cons.mpr ⟨ckX5_weigh, List.forall_mem_cons.mpr ⟨ckX5_hope, List.forall_mem_cons.mpr ⟨ckX5_worst, List.forall_mem_cons.mpr ⟨ckX5_isNext, List.forall_mem_cons.mpr ⟨ckX5_earliest, List.forall_mem_cons.mpr ⟨ckX5_firstCopy, List.forall_mem_cons.mpr ⟨ckX5_place, (fun _ q => by cases q)⟩⟩⟩⟩⟩⟩⟩⟩⟩⟩
theorem z_mcwc7 : ∀ x ∈ ([76, 77, 78, 79, 80, 81, 83, 86, 93, 94] : List Nat), z_mcw x := List.forall_mem_cons.mpr ⟨z_mcw76, List.forall_mem_cons.mpr ⟨z_mcw77, List.forall_mem_cons.mpr ⟨z_mcw78, List.forall_mem_cons.mpr ⟨z_mcw79, List.forall_mem_cons.mpr ⟨z_mcw80, List.forall_mem_cons.mpr ⟨z_mcw81, List.forall_mem_cons.mpr ⟨z_mcw83, List.forall_mem_cons.mpr ⟨z_mcw86, List.forall_mem_cons.mpr ⟨z_mcw93, List.forall_mem_cons.mpr ⟨z_mcw94, (fun _ q => by cases q)⟩⟩⟩⟩⟩⟩⟩⟩⟩⟩
theorem z_ckc7 : ∀ x ∈ ([76, 77, 78, 79, 80, 81, 83, 86, 93, 94] : List Nat), (z_pg x).all (z_eck x) = true := List.forall_mem_cons.mpr ⟨ckX5_takeBack, List.forall_mem_cons.mpr ⟨ckX5_miss, List.forall_mem_cons.mpr ⟨ckX6_init, List.forall_mem_cons.mpr ⟨ckX6_has, List.forall_mem_cons.mpr ⟨ckX6_isMissing, List.forall_mem_cons.mpr ⟨ckX6_lackAt, List.forall_mem_cons.mpr ⟨ckX6_begin, List.forall_mem_cons.mpr ⟨ckX7_init, List.forall_mem_cons.mpr ⟨ckX7_text, List.forall_mem_cons.mpr ⟨ckX7_put, (fun _ q => by cases q)⟩⟩⟩⟩⟩⟩⟩⟩⟩⟩
theorem z_mcwc8 : ∀ x ∈ ([95, 96, 100, 102, 104, 105, 108, 109, 110, 112] : List Nat), z_mcw x := List.forall_mem_cons.mpr ⟨z_mcw95, List.forall_mem_cons.mpr ⟨z_mcw96, List.forall_mem_cons.mpr ⟨z_mcw100, List.forall_mem_cons.mpr ⟨z_mcw102, List.forall_mem_cons.mpr ⟨z_mcw104, List.forall_mem_cons.mpr ⟨z_mcw105, List.forall_mem_cons.mpr ⟨z_mcw108, List.forall_mem_cons.mpr ⟨z_mcw109, List.forall_mem_cons.mpr ⟨z_mcw110, List.forall_mem_cons.mpr ⟨z_mcw112, (fun _ q => by cases q)⟩⟩⟩⟩⟩⟩⟩⟩⟩⟩
theorem z_ckc8 : ∀ x ∈ ([95, 96, 100, 102, 104, 105, 108, 109, 110, 112] : List Nat), (z_pg x).all (z_eck x) = true := List.forall_mem_cons.mpr ⟨ckX7_fault, List.forall_mem_cons.mpr ⟨ckX7_house, List.forall_mem_cons.mpr ⟨ckX7_copies, List.forall_mem_cons.mpr ⟨ckX7_late, List.forall_mem_cons.mpr ⟨ckX7_judge, List.forall_mem_cons.mpr ⟨ckX7_missed, List.forall_mem_cons.mpr ⟨ckX7_image, List.forall_mem_cons.mpr ⟨ckX7_on, List.forall_mem_cons.mpr ⟨ckX7_rule, List.forall_mem_cons.mpr ⟨ckX7_run, (fun _ q => by cases q)⟩⟩⟩⟩⟩⟩⟩⟩⟩⟩
theorem z_mcwc9 : ∀ x ∈ ([113, 114, 115, 116, 117, 118, 119, 121, 126, 127] : List Nat), z_mcw x := List.forall_mem_cons.mpr ⟨z_mcw113, List.forall_mem_cons.mpr ⟨z_mcw114, List.forall_mem_cons.mpr ⟨z_mcw115, List.forall_mem_cons.mpr ⟨z_mcw116, List.forall_mem_cons.mpr ⟨z_mcw117, List.forall_mem_cons.mpr ⟨z_mcw118, List.forall_mem_cons.mpr ⟨z_mcw119, List.forall_mem_cons.mpr ⟨z_mcw121, List.forall_mem_cons.mpr ⟨z_mcw126, List.forall_mem_cons.mpr ⟨z_mcw127, (fun _ q => by cases q)⟩⟩⟩⟩⟩⟩⟩⟩⟩⟩
theorem z_ckc9 : ∀ x ∈ ([113, 114, 115, 116, 117, 118, 119, 121, 126, 127] : List Nat), (z_pg x).all (z_eck x) = true := List.forall_mem_cons.mpr ⟨ckX7_best, List.forall_mem_cons.mpr ⟨ckX7_least, List.forall_mem_cons.mpr ⟨ckX7_mend, List.forall_mem_cons.mpr ⟨ckX7_soon, List.forall_mem_cons.mpr ⟨ckX7_even, List.forall_mem_cons.mpr ⟨ckX7_bound, List.forall_mem_cons.mpr ⟨ckX7_quarrel, List.forall_mem_cons.mpr ⟨ckX7_asked, List.forall_mem_cons.mpr ⟨ckX7_found, List.forall_mem_cons.mpr ⟨ckX7_isBeginning, (fun _ q => by cases q)⟩⟩⟩⟩⟩⟩⟩⟩⟩⟩
theorem z_mcwc10 : ∀ x ∈ ([129, 131, 132, 133, 251, 252, 253, 254, 255] : List Nat), z_mcw x := List.forall_mem_cons.mpr ⟨z_mcw129, List.forall_mem_cons.mpr ⟨z_mcw131, List.forall_mem_cons.mpr ⟨z_mcw132, List.forall_mem_cons.mpr ⟨z_mcw133, List.forall_mem_cons.mpr ⟨z_mcw251, List.forall_mem_cons.mpr ⟨z_mcw252, List.forall_mem_cons.mpr ⟨z_mcw253, List.forall_mem_cons.mpr ⟨z_mcw254, List.forall_mem_cons.mpr ⟨z_mcw255, (fun _ q => by cases q)⟩⟩⟩⟩⟩⟩⟩⟩⟩
theorem z_ckc10 : ∀ x ∈ ([129, 131, 132, 133, 251, 252, 253, 254, 255] : List Nat), (z_pg x).all (z_eck x) = true := List.forall_mem_cons.mpr ⟨ckX7_lackOfCard, List.forall_mem_cons.mpr ⟨ckX7_searchAll, List.forall_mem_cons.mpr ⟨ckX7_canAllHaveAll, List.forall_mem_cons.mpr ⟨ckX7_keepAhead, List.forall_mem_cons.mpr ⟨ckL_cell, List.forall_mem_cons.mpr ⟨ckL_put, List.forall_mem_cons.mpr ⟨ckL_number, List.forall_mem_cons.mpr ⟨ckL_numbers, List.forall_mem_cons.mpr ⟨ckL_house, (fun _ q => by cases q)⟩⟩⟩⟩⟩⟩⟩⟩⟩
theorem z_mckA (x : Nat) (hx : z_lk x = true) : z_mck x = true := by
  have key : ∀ x ∈ ([0, 1, 2, 3, 8, 9, 10, 11, 12, 13] ++ ([14, 15, 16, 17, 18, 19, 20, 21, 22, 23] ++ ([24, 25, 26, 27, 28, 29, 30, 31, 32, 33] ++ ([34, 35, 36, 37, 38, 39, 40, 41, 42, 43] ++ ([44, 45, 46, 47, 48, 49, 50, 51, 52, 53] ++ ([54, 55, 56, 57, 60, 61, 62, 63, 64, 65] ++ ([66, 67, 68, 69, 70, 71, 72, 73, 74, 75] ++ ([76, 77, 78, 79, 80, 81, 83, 86, 93, 94] ++ ([95, 96, 100, 102, 104, 105, 108, 109, 110, 112] ++ ([113, 114, 115, 116, 117, 118, 119, 121, 126, 127] ++ ([129, 131, 132, 133, 251, 252, 253, 254, 255])))))))))) : List Nat), z_mck x = true := List.forall_mem_append.mpr ⟨z_mckc0, List.forall_mem_append.mpr ⟨z_mckc1, List.forall_mem_append.mpr ⟨z_mckc2, List.forall_mem_append.mpr ⟨z_mckc3, List.forall_mem_append.mpr ⟨z_mckc4, List.forall_mem_append.mpr ⟨z_mckc5, List.forall_mem_append.mpr ⟨z_mckc6, List.forall_mem_append.mpr ⟨z_mckc7, List.forall_mem_append.mpr ⟨z_mckc8, List.forall_mem_append.mpr ⟨z_mckc9, z_mckc10⟩⟩⟩⟩⟩⟩⟩⟩⟩⟩
  exact key x (z_lk_in hx)
theorem z_mcwA (x : Nat) (hx : z_lk x = true) : z_mcw x := by
  have key : ∀ x ∈ ([0, 1, 2, 3, 8, 9, 10, 11, 12, 13] ++ ([14, 15, 16, 17, 18, 19, 20, 21, 22, 23] ++ ([24, 25, 26, 27, 28, 29, 30, 31, 32, 33] ++ ([34, 35, 36, 37, 38, 39, 40, 41, 42, 43] ++ ([44, 45, 46, 47, 48, 49, 50, 51, 52, 53] ++ ([54, 55, 56, 57, 60, 61, 62, 63, 64, 65] ++ ([66, 67, 68, 69, 70, 71, 72, 73, 74, 75] ++ ([76, 77, 78, 79, 80, 81, 83, 86, 93, 94] ++ ([95, 96, 100, 102, 104, 105, 108, 109, 110, 112] ++ ([113, 114, 115, 116, 117, 118, 119, 121, 126, 127] ++ ([129, 131, 132, 133, 251, 252, 253, 254, 255])))))))))) : List Nat), z_mcw x := List.forall_mem_append.mpr ⟨z_mcwc0, List.forall_mem_append.mpr ⟨z_mcwc1, List.forall_mem_append.mpr ⟨z_mcwc2, List.forall_mem_append.mpr ⟨z_mcwc3, List.forall_mem_append.mpr ⟨z_mcwc4, List.forall_mem_append.mpr ⟨z_mcwc5, List.forall_mem_append.mpr ⟨z_mcwc6, List.forall_mem_append.mpr ⟨z_mcwc7, List.forall_mem_append.mpr ⟨z_mcwc8, List.forall_mem_append.mpr ⟨z_mcwc9, z_mcwc10⟩⟩⟩⟩⟩⟩⟩⟩⟩⟩
  exact key x (z_lk_in hx)
theorem z_ckB (x : Nat) (hx : z_lk x = true) : (z_pg x).all (z_eck x) = true := by
  have key : ∀ x ∈ ([0, 1, 2, 3, 8, 9, 10, 11, 12, 13] ++ ([14, 15, 16, 17, 18, 19, 20, 21, 22, 23] ++ ([24, 25, 26, 27, 28, 29, 30, 31, 32, 33] ++ ([34, 35, 36, 37, 38, 39, 40, 41, 42, 43] ++ ([44, 45, 46, 47, 48, 49, 50, 51, 52, 53] ++ ([54, 55, 56, 57, 60, 61, 62, 63, 64, 65] ++ ([66, 67, 68, 69, 70, 71, 72, 73, 74, 75] ++ ([76, 77, 78, 79, 80, 81, 83, 86, 93, 94] ++ ([95, 96, 100, 102, 104, 105, 108, 109, 110, 112] ++ ([113, 114, 115, 116, 117, 118, 119, 121, 126, 127] ++ ([129, 131, 132, 133, 251, 252, 253, 254, 255])))))))))) : List Nat), (z_pg x).all (z_eck x) = true := List.forall_mem_append.mpr ⟨z_ckc0, List.forall_mem_append.mpr ⟨z_ckc1, List.forall_mem_append.mpr ⟨z_ckc2, List.forall_mem_append.mpr ⟨z_ckc3, List.forall_mem_append.mpr ⟨z_ckc4, List.forall_mem_append.mpr ⟨z_ckc5, List.forall_mem_append.mpr ⟨z_ckc6, List.forall_mem_append.mpr ⟨z_ckc7, List.forall_mem_append.mpr ⟨z_ckc8, List.forall_mem_append.mpr ⟨z_ckc9, z_ckc10⟩⟩⟩⟩⟩⟩⟩⟩⟩⟩
  exact key x (z_lk_in hx)
theorem z_ckA (x : Nat) (hx : z_lk x = true ∨ x = 250) : (z_pg x).all (z_eck x) = true := by
  rcases hx with hx | rfl
  · exact z_ckB x hx
  · exact ckL_law
end
section
/-! THE MACHINE'S HEAP, read as a pure heap: cell a (from 2 on) stands at base + (a - 2), the script at b -/
def z_ad (base b a : Nat) : Nat := if a = 1 then b else base + (a - 2)
def z_ro (base b a : Nat) : Option Nat := if a = 0 then none else some (z_ad base b a)
def z_tv (base b : Nat) (v : z_V) : Value := match v with
  | .inl x => .int x
  | .inr (.inl a) => va_rf (z_ro base b a)
  | .inr (.inr x) => .long x
def z_fv (base b : Nat) (h : z_Hp) (a k z : Nat) : Value := match z with
  | 1 => va_rf (z_ro base b (z_F h a k))
  | 2 => .long (z_J h a k)
  | _ => .int (z_I h a k)
def z_fs (base b : Nat) (h : z_Hp) (a c : Nat) : List Value := (List.range (z_cN c)).map (fun k => z_fv base b h a k (z_fk c k))
def z_arr (base b : Nat) (h : z_Hp) (a t n : Nat) : vp_A := match t with
  | 11 => (n, .inr (.inl (h.2.2.2 a)))
  | 14 => (n, .inr (.inr (.inr (.inr (fun j => z_ro base b (h.2.2.1 a j))))))
  | 15 => (n, .inr (.inr (.inr (.inr (fun j => z_ro base b (h.2.2.1 a j))))))
  | _ => (n, .inl (h.2.1 a))
def z_cel (cy : Nat → ClassId) (base b : Nat) (h : z_Hp) (a : Nat) : va_E := if (w_kd a).1 < 8 then .inr ((w_kd a).1, z_fs base b h a (w_kd a).1) else .inl (cy (w_kd a).1, z_arr base b h a (w_kd a).1 (w_kd a).2)
def z_wl (cy : Nat → ClassId) (base b : Nat) (h : z_Hp) : va_W := (List.range h.1).map (fun i => (base + i, z_cel cy base b h (i + 2)))
def z_tys (cy : Nat → ClassId) : List (ClassId × FieldType) := [(cy 10, .int), (cy 11, .long), (cy 13, .boolean), (cy 14, .object RX4), (cy 15, .array .int)]
def z_sz : Nat → Nat
  | 0 => 0
  | n + 1 => z_sz n + (w_kd (n + 2)).2
theorem z_sz_le {n k : Nat} (h : n ≤ k) : z_sz n ≤ z_sz k := by
  induction k with
  | zero => rw [Nat.le_zero.mp h]; exact Nat.le_refl _
  | succ k ih =>
    rcases Nat.lt_or_ge n (k + 1) with q | q
    · exact Nat.le_trans (ih (by omega)) (Nat.le_add_right _ _)
    · rw [show n = k + 1 by omega]; exact Nat.le_refl _
theorem z_wl_get {cy : Nat → ClassId} {base b : Nat} {h : z_Hp} {i : Nat} (hi : i < h.1) : (z_wl cy base b h)[i]? = some (base + i, z_cel cy base b h (i + 2)) := by
  unfold z_wl
  rw [List.getElem?_map, List.getElem?_range hi]
  rfl
theorem z_wl_inv {cy : Nat → ClassId} {base b : Nat} {h : z_Hp} {k : Nat} {q : Nat × va_E} (hk : (z_wl cy base b h)[k]? = some q) : k < h.1 ∧ q = (base + k, z_cel cy base b h (k + 2)) := by
  have hlt : k < h.1 := by
    have := (List.getElem?_eq_some_iff.mp hk).1
    simpa [z_wl] using this
  refine ⟨hlt, ?_⟩
  rw [z_wl_get hlt] at hk
  exact (Option.some.inj hk).symm
/-- one cell is another one, all else stays -/
theorem z_wput {D : va_G} {cy : Nat → ClassId} {base b : Nat} {h h' : z_Hp} {H H1 : Heap} {i : Nat} (hP : va_P D vwCl (z_wl cy base b h) H) (h1 : h'.1 = h.1) (hc : ∀ j, j ≠ i → z_cel cy base b h' (j + 2) = z_cel cy base b h (j + 2)) (hn : va_at D vwCl (base + i, z_cel cy base b h' (i + 2)) H1) (oq : ∀ q : Nat, q ≠ base + i → H1[q]? = H[q]?) : va_P D vwCl (z_wl cy base b h') H1 := by
  intro k q hk
  obtain ⟨hlt, rfl⟩ := z_wl_inv hk
  by_cases e : k = i
  · subst e
    exact hn
  · rw [hc k e]
    exact (hP k _ (z_wl_get (h1 ▸ hlt))).kept (oq _ (by show base + k ≠ base + i; omega))
/-- new cells come behind, all old ones stay -/
theorem z_wnew {D : va_G} {cy : Nat → ClassId} {base b : Nat} {h h' : z_Hp} {H H1 : Heap} (hP : va_P D vwCl (z_wl cy base b h) H) (hz : H.size = base + h.1) (hc : ∀ j, j < h.1 → z_cel cy base b h' (j + 2) = z_cel cy base b h (j + 2)) (hn : ∀ j, h.1 ≤ j → j < h'.1 → va_at D vwCl (base + j, z_cel cy base b h' (j + 2)) H1) (oq : ∀ q : Nat, q < H.size → H1[q]? = H[q]?) : va_P D vwCl (z_wl cy base b h') H1 := by
  intro k q hk
  obtain ⟨hlt, rfl⟩ := z_wl_inv hk
  rcases Nat.lt_or_ge k h.1 with e | e
  · rw [hc k e]
    exact (hP k _ (z_wl_get e)).kept (oq _ (by show base + k < H.size; omega))
  · exact hn k e hlt
/-- what a guard says -/
theorem z_gd_some {b : Bool} {x : z_O} {r : z_R} : z_gd b x = some r ↔ b = true ∧ x = some r := by cases b <;> simp [z_gd]
theorem z_sg_some {b : Bool} {x : z_O} {r : z_R} : z_sg b x = some r ↔ b = true ∧ x = some r := by cases b <;> simp [z_sg]
theorem z_pi_some {st : List z_V} {f : Int32 → List z_V → z_O} {r : z_R} : z_pi st f = some r ↔ ∃ x t, st = z_vi x :: t ∧ f x t = some r := by
  unfold z_pi
  rcases st with _ | ⟨x | x | x, t⟩ <;> simp
theorem z_pr_some {st : List z_V} {f : Nat → List z_V → z_O} {r : z_R} : z_pr st f = some r ↔ ∃ x t, st = z_vr x :: t ∧ f x t = some r := by
  unfold z_pr
  rcases st with _ | ⟨x | x | x, t⟩ <;> simp
theorem z_pl_some {st : List z_V} {f : Int64 → List z_V → z_O} {r : z_R} : z_pl st f = some r ↔ ∃ x t, st = z_vl x :: t ∧ f x t = some r := by
  unfold z_pl
  rcases st with _ | ⟨x | x | x, t⟩ <;> simp
theorem z_ldi_some {ls : z_Ls} {k : Nat} {f : Int32 → z_O} {r : z_R} : z_ldi ls k f = some r ↔ ∃ x, ls[k]? = some (some (z_vi x)) ∧ f x = some r := by
  unfold z_ldi
  rcases ls[k]? with _ | _ | x | x | x <;> simp
theorem z_ldr_some {ls : z_Ls} {k : Nat} {f : Nat → z_O} {r : z_R} : z_ldr ls k f = some r ↔ ∃ x, ls[k]? = some (some (z_vr x)) ∧ f x = some r := by
  unfold z_ldr
  rcases ls[k]? with _ | _ | x | x | x <;> simp
theorem z_ldl_some {ls : z_Ls} {k : Nat} {f : Int64 → z_O} {r : z_R} : z_ldl ls k f = some r ↔ ∃ x, ls[k]? = some (some (z_vl x)) ∧ f x = some r := by
  unfold z_ldl
  rcases ls[k]? with _ | _ | x | x | x <;> simp
theorem w_kd_small {a : Nat} (h : (w_kd a).1 < 98) : 2 ≤ a := by
  rcases a with _ | _ | a
  · exact absurd h (by decide)
  · exact absurd h (by decide)
  · omega
theorem w_kd_len (a : Nat) (h : (w_kd a).1 < 8) : (w_kd a).2 = z_cN (w_kd a).1 := by
  have key : (w_kdl.all fun q => !(Nat.blt q.1 8) || Nat.beq q.2 (z_cN q.1)) = true := by decide +kernel
  unfold w_kd at h ⊢
  split at h
  · rename_i q hq
    have := List.all_eq_true.mp key q (List.mem_of_getElem? hq)
    have hb : Nat.blt q.1 8 = true := Nat.blt_eq.mpr h
    rw [hb] at this
    exact Nat.eq_of_beq_eq_true (by simpa using this)
  · exact absurd h (by decide)
theorem z_ob_spec {h : z_Hp} {a c : Nat} (hc : c < 8) (g : z_ob h a c = true) : ∃ i, a = i + 2 ∧ i < h.1 ∧ (w_kd (i + 2)).1 = c := by
  unfold z_ob at g
  simp only [Bool.and_eq_true, Nat.beq_eq_true_eq, Nat.blt_eq] at g
  obtain ⟨g1, g2⟩ := g
  have g1 : (w_kd a).1 = c := by simpa using g1
  have := w_kd_small (a := a) (by omega)
  exact ⟨a - 2, by omega, by omega, by rw [show a - 2 + 2 = a by omega]; exact g1⟩
theorem z_in_spec {i : Int32} {n : Nat} (g : z_in i n = true) : ¬ i < 0 ∧ i.toNatClampNeg < n := by
  unfold z_in at g
  simpa using g
theorem z_ar_spec {h : z_Hp} {a t : Nat} {i : Int32} (ht : t < 98) (g : z_ar h a t i = true) : ∃ k, a = k + 2 ∧ k < h.1 ∧ (w_kd (k + 2)).1 = t ∧ ¬ i < 0 ∧ i.toNatClampNeg < (w_kd (k + 2)).2 := by
  unfold z_ar at g
  simp only [Bool.and_eq_true, Nat.blt_eq] at g
  obtain ⟨⟨g1, g2⟩, g3⟩ := g
  have g1 : (w_kd a).1 = t := by simpa using g1
  have := w_kd_small (a := a) (by omega)
  obtain ⟨g4, g5⟩ := z_in_spec g3
  exact ⟨a - 2, by omega, by omega, by rw [show a - 2 + 2 = a by omega]; exact g1, g4, by rw [show a - 2 + 2 = a by omega]; exact g5⟩
theorem z_tv_gv {base b : Nat} {h : z_Hp} {a y z : Nat} : z_tv base b (z_gv h a y z) = z_fv base b h a y z := by
  unfold z_gv z_fv
  match z with
  | 0 => rfl
  | 1 => rfl
  | 2 => rfl
  | n + 3 => rfl
theorem z_cel_ob {cy : Nat → ClassId} {base b : Nat} {h : z_Hp} {a c : Nat} (hk : (w_kd a).1 = c) (hc : c < 8) : z_cel cy base b h a = .inr (c, z_fs base b h a c) := by
  unfold z_cel
  rw [hk, if_pos hc]
theorem z_cel_ar {cy : Nat → ClassId} {base b : Nat} {h : z_Hp} {a t : Nat} (hk : (w_kd a).1 = t) (ht : ¬ t < 8) : z_cel cy base b h a = .inl (cy t, z_arr base b h a t (w_kd a).2) := by
  unfold z_cel
  rw [hk, if_neg ht]
theorem z_row_ne {α : Type} {f : Nat → Nat → α} {a c : Nat} {g : Nat → α} (h : c ≠ a) : z_row f a g c = f c := if_neg h
theorem z_row_eq {α : Type} {f : Nat → Nat → α} {a : Nat} {g : Nat → α} : z_row f a g a = g := if_pos rfl
/-- a cell shows nothing but its own row -/
theorem z_cel_cg {cy : Nat → ClassId} {base b : Nat} {h h' : z_Hp} {a : Nat} (e1 : h'.2.1 a = h.2.1 a) (e2 : h'.2.2.1 a = h.2.2.1 a) (e3 : h'.2.2.2 a = h.2.2.2 a) : z_cel cy base b h' a = z_cel cy base b h a := by
  unfold z_cel z_fs z_fv z_arr z_I z_F z_J
  rw [e1, e2, e3]
end
section
/-! 'from (pc, locals, stack, heap) the machine comes to Q' -/
def z_lv (base b : Nat) (mls : Array Slot) (nL : Nat) (ls : z_Ls) : Prop := mls.size = nL ∧ ls.length = nL ∧ lv_wf mls ∧ ∀ (i : Nat) (v : z_V), ls[i]? = some (some v) → mls[i]? = some (.val (z_tv base b v))
def z_nst : List (Nat × MethodName) := [(23, yX1_init), (44, yX4_init), (51, yX3_init), (58, yX5_init), (69, yX0_init)]
def z_AI (U : State) : Prop := (Jvm.Cond.arrayOver (.array .int)).before #[] U = true
/-- what is known of the machine, whatever its heap: the classes, the kinds of rows, the links of the nest -/
def z_KK (D : va_G) (cy : Nat → ClassId) (U : State) : Prop := va_K D vwCl (z_tys cy) U ∧ (∀ q ∈ z_nst, va_Nw (.methodLinkNest RX7 q.1 q.2 z_host) U) ∧ va_AO RX4 U ∧ z_AI U
def z_Cx (p : Program) (s : State) (m : MethodId) (args : Array Value) (meth : Method) (c : Code) (D : va_G) (cy : Nat → ClassId) (base b : Nat) (sc : z_Sc) (M : Nat) : Prop :=
  p.tables.exec = Jvm.exec ∧ c.code = z_bM M ∧ c.maxLocals = z_ml M ∧ s.vm.findClass (z_yM M).cls = some m.cls ∧ (∀ w ∈ z_W, w.before args s = true) ∧ z_KK D cy s ∧ ((z_yM M).name = "<init>" → meth.name = "<init>") ∧ (va_X b sc.1 sc.2 s s.heap ∧ b < s.heap.size ∧ b < base) ∧ base ≤ s.heap.size
def z_at (p : Program) (l : Launch) (e : Env) (R : Room) (s : State) (m : MethodId) (args : Array Value) (below : List Frame) (meth : Method) (c : Code) (Q : State → Prop) (D : va_G) (cy : Nat → ClassId) (base b n0 : Nat) (pc : Nat) (ls : z_Ls) (st : List z_V) (h : z_Hp) : Prop :=
  ∀ (H : Heap) (locs : List Loc) (mls : Array Slot) (cells slots : Nat), H.size = base + h.1 → va_P D vwCl (z_wl cy base b h) H → va_S (fun q => base ≤ q) s.heap H locs → z_lv base b mls c.maxLocals ls → n0 ≤ h.1 → cells = h.1 - n0 → slots = z_sz h.1 - z_sz n0 → W p l e R s m args below meth c H locs cells slots Q (F0 m pc mls (st.map (z_tv base b)))
/-! locals -/
def z_ents (base b : Nat) (ls : z_Ls) : List (Nat × Value) := (List.range ls.length).filterMap (fun i => match ls[i]? with
  | some (some v) => some (i, z_tv base b v)
  | _ => none)
theorem z_ents_mem {base b : Nat} {ls : z_Ls} {i : Nat} {w : Value} : (i, w) ∈ z_ents base b ls ↔ ∃ v, ls[i]? = some (some v) ∧ w = z_tv base b v := by
  unfold z_ents
  rw [List.mem_filterMap]
  constructor
  · rintro ⟨j, hj, hq⟩
    rcases hl : ls[j]? with _ | _ | v
    · rw [hl] at hq; cases hq
    · rw [hl] at hq; cases hq
    · rw [hl] at hq
      cases hq
      exact ⟨v, hl, rfl⟩
  · rintro ⟨v, hl, rfl⟩
    refine ⟨i, List.mem_range.mpr (List.getElem?_eq_some_iff.mp hl).1, ?_⟩
    rw [hl]
theorem z_lv_has {base b nL : Nat} {mls : Array Slot} {ls : z_Ls} (h : z_lv base b mls nL ls) : lv_has mls nL (z_ents base b ls) := ⟨h.1, h.2.2.1, fun q hq => by
  obtain ⟨i, w⟩ := q
  obtain ⟨v, h1, rfl⟩ := z_ents_mem.mp hq
  exact h.2.2.2 i v h1⟩
theorem z_tv_cat1 {base b : Nat} {v : z_V} (h : z_cat v = 1) : (z_tv base b v).category = 1 := by
  rcases v with x | a | x
  · rfl
  · show (va_rf (z_ro base b a)).category = 1
    rcases z_ro base b a with _ | q <;> rfl
  · cases h
theorem z_tv_cat {base b : Nat} {v : z_V} : (z_tv base b v).category = z_cat v := by
  rcases v with x | a | x
  · rfl
  · show (va_rf (z_ro base b a)).category = 1
    rcases z_ro base b a with _ | q <;> rfl
  · rfl
theorem z_sk_lt {ls : z_Ls} {k : Nat} (h : z_sk ls k = true) : k < ls.length := by
  unfold z_sk at h
  simp only [Bool.and_eq_true, Nat.blt_eq] at h
  exact h.1
theorem z_sk_no {ls : z_Ls} {k j : Nat} {v : z_V} (h : z_sk ls k = true) (hj : j + 1 = k) (hv : ls[j]? = some (some v)) : z_cat v = 1 := by
  subst hj
  unfold z_sk at h
  simp only [Bool.and_eq_true] at h
  have h2 := h.2
  rw [hv] at h2
  rcases v with x | a | x
  · rfl
  · rfl
  · cases h2
theorem z_lv_set1 {base b nL : Nat} {mls mls' : Array Slot} {ls : z_Ls} {k : Nat} {v : z_V} (h : z_lv base b mls nL ls) (hk : z_sk ls k = true) (h' : lv_has mls' nL ((k, z_tv base b v) :: (z_ents base b ls).filter (fun q => !(q.1 == k) && !(q.1 + 1 == k && q.2.category == 2)))) : z_lv base b mls' nL (ls.set k (some v)) := by
  refine ⟨h'.1, by rw [List.length_set]; exact h.2.1, h'.2.1, fun i w hw => ?_⟩
  rw [List.getElem?_set] at hw
  by_cases e : k = i
  · subst e
    rw [if_pos rfl, if_pos (z_sk_lt hk)] at hw
    cases hw
    exact h'.2.2 _ List.mem_cons_self
  · rw [if_neg e] at hw
    refine h'.2.2 (i, z_tv base b w) (List.mem_cons_of_mem _ (List.mem_filter.mpr ⟨z_ents_mem.mpr ⟨w, hw, rfl⟩, ?_⟩))
    have h1 : ¬ (i = k) := fun q => e q.symm
    by_cases h2 : i + 1 = k
    · have := z_sk_no hk h2 hw
      simp [h1, z_tv_cat, this]
    · simp [h1, h2]
theorem z_lv_set2 {base b nL : Nat} {mls mls' : Array Slot} {ls : z_Ls} {k : Nat} {v : Int64} (h : z_lv base b mls nL ls) (hk : z_sk ls k = true) (h' : lv_has mls' nL ((k, .long v) :: (z_ents base b ls).filter (fun q => !(q.1 == k) && (!(q.1 == k + 1) && !(q.1 + 1 == k && q.2.category == 2))))) : z_lv base b mls' nL ((ls.set k (some (z_vl v))).set (k + 1) none) := by
  refine ⟨h'.1, by rw [List.length_set, List.length_set]; exact h.2.1, h'.2.1, fun i w hw => ?_⟩
  rw [List.getElem?_set] at hw
  by_cases e1 : k + 1 = i
  · rw [if_pos e1] at hw
    split at hw <;> cases hw
  · rw [if_neg e1, List.getElem?_set] at hw
    by_cases e : k = i
    · subst e
      rw [if_pos rfl, if_pos (z_sk_lt hk)] at hw
      cases hw
      exact h'.2.2 _ List.mem_cons_self
    · rw [if_neg e] at hw
      refine h'.2.2 (i, z_tv base b w) (List.mem_cons_of_mem _ (List.mem_filter.mpr ⟨z_ents_mem.mpr ⟨w, hw, rfl⟩, ?_⟩))
      have h1 : ¬ (i = k) := fun q => e q.symm
      have h3 : ¬ (i = k + 1) := fun q => e1 q.symm
      by_cases h2 : i + 1 = k
      · have := z_sk_no hk h2 hw
        simp [h1, h3, z_tv_cat, this]
      · simp [h1, h2, h3]
theorem z_cats_map {base b : Nat} : ∀ st : List z_V, ((st.map (z_tv base b)).map fun v => v.category).sum = z_cats st
  | [] => rfl
  | v :: r => by
    rw [List.map_cons, List.map_cons, List.sum_cons, z_cats_map r, z_tv_cat]
    rfl
theorem z_beq {a b : Nat} (h : Nat.beq a b = true) : a = b := Nat.eq_of_beq_eq_true h
end
section
/-! EACH INSTRUCTION is what the machine does: groups 0, 1, 2 -/
section SN
variable {p : Program} {l : Launch} {e : Env} {R : Room} {s : State} {m : MethodId} {args : Array Value} {below : List Frame} {meth : Method} {c : Code} {Q : State → Prop} {D : va_G} {cy : Nat → ClassId} {base b n0 : Nat} {sc : z_Sc} {M : Nat}
variable {pc len : Nat} {ls : z_Ls} {st : List z_V} {h : z_Hp} {ins : Jvm.ClassFile.Instr} {x y z : Nat} {K : z_K} {r : z_R}
theorem z_sn0 (X : z_Cx p s m args meth c D cy base b sc M) (hdg : decode (z_bM M) pc = .ok (ins, len)) (hok : z_sok M pc len 0 ins x y z = true) {q : Nat × Nat} (hw : z_wp q = z_wd (z_yM M).cls ins x y z) (hr : z_i0 K ins x y pc ls st h = some r) (hK : ∀ pc' ls' st' h', K pc' ls' st' h' = some r → z_at p l e R s m args below meth c Q D cy base b n0 pc' ls' st' h') : z_at p l e R s m args below meth c Q D cy base b n0 pc ls st h := by
  obtain ⟨hx, hb, hml, hown, hts, hKK, hin, hscr, hbs⟩ := X
  have hwW : ∀ w, z_wp q = some w → goodWord w = true → w.before args s = true := fun w h1 h2 => hts w (z_wp_W h1 h2)
  unfold z_i0 at hr
  split at hr
  · -- iload
    rename_i k
    have e : len = 2 := by simpa [z_sok] using hok
    subst e
    obtain ⟨v, h1, h2⟩ := z_ldi_some.mp hr
    intro H locs mls cells slots a1 a2 a3 a4 a5 a6 a7
    exact lv_iload hx hb hdg (a4.2.2.2 _ _ h1) (hK _ _ _ _ h2 H locs mls cells slots a1 a2 a3 a4 a5 a6 a7)
  · -- iload_n
    rename_i k
    have e : len = 1 := by simpa [z_sok] using hok
    subst e
    obtain ⟨v, h1, h2⟩ := z_ldi_some.mp hr
    intro H locs mls cells slots a1 a2 a3 a4 a5 a6 a7
    exact lv_iload_n hx hb hdg rfl (a4.2.2.2 _ _ h1) (hK _ _ _ _ h2 H locs mls cells slots a1 a2 a3 a4 a5 a6 a7)
  · -- aload_n
    rename_i k
    have e : len = 1 := by simpa [z_sok] using hok
    subst e
    obtain ⟨v, h1, h2⟩ := z_ldr_some.mp hr
    intro H locs mls cells slots a1 a2 a3 a4 a5 a6 a7
    have h3 : mls[k.val]? = some (Slot.val (va_rf (z_ro base b v))) := a4.2.2.2 _ _ h1
    have h4 := hK _ _ _ _ h2 H locs mls cells slots a1 a2 a3 a4 a5 a6 a7
    rw [List.map_cons] at h4
    change W p l e R s m args below meth c H locs cells slots Q (F0 m (pc + 1) mls (va_rf (z_ro base b v) :: _)) at h4
    rcases hq : z_ro base b v with _ | w
    · rw [hq] at h3 h4
      exact lv_aload_nN hx hb hdg rfl h3 h4
    · rw [hq] at h3 h4
      exact lv_aload_n hx hb hdg rfl h3 h4
  · -- aload
    rename_i k
    have e : len = 2 := by simpa [z_sok] using hok
    subst e
    obtain ⟨v, h1, h2⟩ := z_ldr_some.mp hr
    intro H locs mls cells slots a1 a2 a3 a4 a5 a6 a7
    have h3 : mls[k]? = some (Slot.val (va_rf (z_ro base b v))) := a4.2.2.2 _ _ h1
    have h4 := hK _ _ _ _ h2 H locs mls cells slots a1 a2 a3 a4 a5 a6 a7
    rw [List.map_cons] at h4
    change W p l e R s m args below meth c H locs cells slots Q (F0 m (pc + 2) mls (va_rf (z_ro base b v) :: _)) at h4
    rcases hq : z_ro base b v with _ | w
    · rw [hq] at h3 h4
      exact lv_aloadN hx hb hdg h3 h4
    · rw [hq] at h3 h4
      exact lv_aload hx hb hdg h3 h4
  · -- lload_n
    rename_i k
    have e : len = 1 := by simpa [z_sok] using hok
    subst e
    obtain ⟨v, h1, h2⟩ := z_ldl_some.mp hr
    intro H locs mls cells slots a1 a2 a3 a4 a5 a6 a7
    exact lv_lload_n hx hb hdg rfl (a4.2.2.2 _ _ h1) (hK _ _ _ _ h2 H locs mls cells slots a1 a2 a3 a4 a5 a6 a7)
  · -- istore
    rename_i k
    have e : len = 2 := by simpa [z_sok] using hok
    subst e
    obtain ⟨v, t, rfl, h2⟩ := z_pi_some.mp hr
    obtain ⟨h1, h2⟩ := z_sg_some.mp h2
    intro H locs mls cells slots a1 a2 a3 a4 a5 a6 a7
    refine lv_istore hx hb hdg (z_lv_has a4) (by rw [← a4.2.1]; exact z_sk_lt h1) rfl (fun mls' hl' => ?_)
    exact hK _ _ _ _ h2 H locs mls' cells slots a1 a2 a3 (z_lv_set1 a4 h1 hl') a5 a6 a7
  · -- istore_n
    rename_i k
    have e : len = 1 := by simpa [z_sok] using hok
    subst e
    obtain ⟨v, t, rfl, h2⟩ := z_pi_some.mp hr
    obtain ⟨h1, h2⟩ := z_sg_some.mp h2
    intro H locs mls cells slots a1 a2 a3 a4 a5 a6 a7
    refine lv_istore_n hx hb hdg rfl (z_lv_has a4) (by rw [← a4.2.1]; exact z_sk_lt h1) rfl (fun mls' hl' => ?_)
    exact hK _ _ _ _ h2 H locs mls' cells slots a1 a2 a3 (z_lv_set1 a4 h1 hl') a5 a6 a7
  · -- astore_n
    rename_i k
    have e : len = 1 := by simpa [z_sok] using hok
    subst e
    obtain ⟨v, t, rfl, h2⟩ := z_pr_some.mp hr
    obtain ⟨h1, h2⟩ := z_sg_some.mp h2
    intro H locs mls cells slots a1 a2 a3 a4 a5 a6 a7
    have h4 : ∀ mls' : Array Slot, lv_has mls' c.maxLocals ((k.val, va_rf (z_ro base b v)) :: (z_ents base b ls).filter (fun q => !(q.1 == k.val) && !(q.1 + 1 == k.val && q.2.category == 2))) → W p l e R s m args below meth c H locs cells slots Q (F0 m (pc + 1) mls' (t.map (z_tv base b))) := fun mls' hl' => hK _ _ _ _ h2 H locs mls' cells slots a1 a2 a3 (z_lv_set1 (v := z_vr v) a4 h1 hl') a5 a6 a7
    show W p l e R s m args below meth c H locs cells slots Q (F0 m pc mls (va_rf (z_ro base b v) :: t.map (z_tv base b)))
    rcases hq : z_ro base b v with _ | w
    · rw [hq] at h4
      exact lv_astore_nN hx hb hdg rfl (z_lv_has a4) (by rw [← a4.2.1]; exact z_sk_lt h1) rfl h4
    · rw [hq] at h4
      exact lv_astore_n hx hb hdg rfl (z_lv_has a4) (by rw [← a4.2.1]; exact z_sk_lt h1) rfl h4
  · -- astore
    rename_i k
    have e : len = 2 := by simpa [z_sok] using hok
    subst e
    obtain ⟨v, t, rfl, h2⟩ := z_pr_some.mp hr
    obtain ⟨h1, h2⟩ := z_sg_some.mp h2
    intro H locs mls cells slots a1 a2 a3 a4 a5 a6 a7
    have h4 : ∀ mls' : Array Slot, lv_has mls' c.maxLocals ((k, va_rf (z_ro base b v)) :: (z_ents base b ls).filter (fun q => !(q.1 == k) && !(q.1 + 1 == k && q.2.category == 2))) → W p l e R s m args below meth c H locs cells slots Q (F0 m (pc + 2) mls' (t.map (z_tv base b))) := fun mls' hl' => hK _ _ _ _ h2 H locs mls' cells slots a1 a2 a3 (z_lv_set1 (v := z_vr v) a4 h1 hl') a5 a6 a7
    show W p l e R s m args below meth c H locs cells slots Q (F0 m pc mls (va_rf (z_ro base b v) :: t.map (z_tv base b)))
    rcases hq : z_ro base b v with _ | w
    · rw [hq] at h4
      exact lv_astoreN hx hb hdg (z_lv_has a4) (by rw [← a4.2.1]; exact z_sk_lt h1) rfl h4
    · rw [hq] at h4
      exact lv_astore hx hb hdg (z_lv_has a4) (by rw [← a4.2.1]; exact z_sk_lt h1) rfl h4
  · -- lstore_n
    rename_i k
    have e : len = 1 := by simpa [z_sok] using hok
    subst e
    obtain ⟨v, t, rfl, h2⟩ := z_pl_some.mp hr
    obtain ⟨h1, h2⟩ := z_sg_some.mp h2
    simp only [Bool.and_eq_true, Nat.blt_eq] at h1
    intro H locs mls cells slots a1 a2 a3 a4 a5 a6 a7
    refine lv_lstore_n hx hb hdg rfl (z_lv_has a4) (by rw [← a4.2.1]; exact h1.2) rfl (fun mls' hl' => ?_)
    exact hK _ _ _ _ h2 H locs mls' cells slots a1 a2 a3 (z_lv_set2 a4 h1.1 hl') a5 a6 a7
  · -- iinc
    rename_i k n
    have e : len = 3 := by simpa [z_sok] using hok
    subst e
    obtain ⟨v, h1, h2⟩ := z_ldi_some.mp hr
    obtain ⟨h3, h2⟩ := z_sg_some.mp h2
    intro H locs mls cells slots a1 a2 a3 a4 a5 a6 a7
    obtain ⟨j, hj⟩ := List.getElem?_of_mem ((z_ents_mem (base := base) (b := b)).mpr ⟨_, h1, rfl⟩)
    refine lv_iinc hx hb hdg (z_lv_has a4) (k := j) hj rfl (by rw [← a4.2.1]; exact z_sk_lt h3) rfl (fun mls' hl' => ?_)
    exact hK _ _ _ _ h2 H locs mls' cells slots a1 a2 a3 (z_lv_set1 (v := z_vi _) a4 h3 hl') a5 a6 a7
  · -- iconst
    have e : len = 1 := by simpa [z_sok] using hok
    subst e
    intro H locs mls cells slots a1 a2 a3 a4 a5 a6 a7
    exact lv_iconst hx hb hdg rfl (hK _ _ _ _ hr H locs mls cells slots a1 a2 a3 a4 a5 a6 a7)
  · -- bipush
    have e : len = 2 := by simpa [z_sok] using hok
    subst e
    intro H locs mls cells slots a1 a2 a3 a4 a5 a6 a7
    exact lv_bipush hx hb hdg rfl (hK _ _ _ _ hr H locs mls cells slots a1 a2 a3 a4 a5 a6 a7)
  · -- sipush
    have e : len = 3 := by simpa [z_sok] using hok
    subst e
    intro H locs mls cells slots a1 a2 a3 a4 a5 a6 a7
    exact lv_sipush hx hb hdg rfl (hK _ _ _ _ hr H locs mls cells slots a1 a2 a3 a4 a5 a6 a7)
  · -- lconst
    have e : len = 1 := by simpa [z_sok] using hok
    subst e
    intro H locs mls cells slots a1 a2 a3 a4 a5 a6 a7
    exact lv_lconst hx hb hdg rfl (hK _ _ _ _ hr H locs mls cells slots a1 a2 a3 a4 a5 a6 a7)
  · -- ldc
    have e : len = 2 := by simpa [z_sok] using hok
    subst e
    intro H locs mls cells slots a1 a2 a3 a4 a5 a6 a7
    exact lv_ldc hx hb hown (hwW _ hw rfl) hdg (hK _ _ _ _ hr H locs mls cells slots a1 a2 a3 a4 a5 a6 a7)
  · -- ldc2_w
    have e : len = 3 := by simpa [z_sok] using hok
    subst e
    intro H locs mls cells slots a1 a2 a3 a4 a5 a6 a7
    exact lv_ldc2 hx hb hown (hwW _ hw rfl) hdg (hK _ _ _ _ hr H locs mls cells slots a1 a2 a3 a4 a5 a6 a7)
  · -- pop
    have e : len = 1 := by simpa [z_sok] using hok
    subst e
    split at hr
    · rename_i v t
      obtain ⟨h1, h2⟩ := z_sg_some.mp hr
      intro H locs mls cells slots a1 a2 a3 a4 a5 a6 a7
      exact lv_pop hx hb hdg (z_tv_cat1 (z_beq h1)) (hK _ _ _ _ h2 H locs mls cells slots a1 a2 a3 a4 a5 a6 a7)
    · cases hr
  · -- dup
    have e : len = 1 := by simpa [z_sok] using hok
    subst e
    split at hr
    · rename_i v t
      obtain ⟨h1, h2⟩ := z_sg_some.mp hr
      intro H locs mls cells slots a1 a2 a3 a4 a5 a6 a7
      exact lv_dup hx hb hdg (z_tv_cat1 (z_beq h1)) (hK _ _ _ _ h2 H locs mls cells slots a1 a2 a3 a4 a5 a6 a7)
    · cases hr
  · -- dup2
    have e : len = 1 := by simpa [z_sok] using hok
    subst e
    split at hr
    · rename_i v t
      intro H locs mls cells slots a1 a2 a3 a4 a5 a6 a7
      exact lv_dup2_2 hx hb hdg rfl (hK _ _ _ _ hr H locs mls cells slots a1 a2 a3 a4 a5 a6 a7)
    · rename_i v w t _
      obtain ⟨h1, h2⟩ := z_sg_some.mp hr
      simp only [Bool.and_eq_true] at h1
      intro H locs mls cells slots a1 a2 a3 a4 a5 a6 a7
      exact lv_dup2_11 hx hb hdg (z_tv_cat1 (z_beq h1.1)) (z_tv_cat1 (z_beq h1.2)) (hK _ _ _ _ h2 H locs mls cells slots a1 a2 a3 a4 a5 a6 a7)
    · cases hr
  · cases hr
theorem z_sn1 (X : z_Cx p s m args meth c D cy base b sc M) (hdg : decode (z_bM M) pc = .ok (ins, len)) (hok : z_sok M pc len 1 ins x y z = true) (hr : z_i1 K ins pc ls st h = some r) (hK : ∀ pc' ls' st' h', K pc' ls' st' h' = some r → z_at p l e R s m args below meth c Q D cy base b n0 pc' ls' st' h') : z_at p l e R s m args below meth c Q D cy base b n0 pc ls st h := by
  obtain ⟨hx, hb, hml, hown, hts, hKK, hin, hscr, hbs⟩ := X
  unfold z_i1 at hr
  split at hr
  case h_23 => cases hr
  all_goals
    have e : len = 1 := by simpa [z_sok] using hok
    subst e
    first
    | (obtain ⟨w, t, rfl, h2⟩ := z_pi_some.mp hr
       obtain ⟨v, t, rfl, h2⟩ := z_pi_some.mp h2
       intro H locs mls cells slots a1 a2 a3 a4 a5 a6 a7
       first
       | exact lv_iadd hx hb hdg (hK _ _ _ _ h2 H locs mls cells slots a1 a2 a3 a4 a5 a6 a7)
       | exact lv_isub hx hb hdg (hK _ _ _ _ h2 H locs mls cells slots a1 a2 a3 a4 a5 a6 a7)
       | exact lv_imul hx hb hdg (hK _ _ _ _ h2 H locs mls cells slots a1 a2 a3 a4 a5 a6 a7)
       | exact lv_iand hx hb hdg (hK _ _ _ _ h2 H locs mls cells slots a1 a2 a3 a4 a5 a6 a7)
       | exact lv_ior hx hb hdg (hK _ _ _ _ h2 H locs mls cells slots a1 a2 a3 a4 a5 a6 a7)
       | exact lv_ixor hx hb hdg (hK _ _ _ _ h2 H locs mls cells slots a1 a2 a3 a4 a5 a6 a7)
       | exact lv_ishl hx hb hdg (hK _ _ _ _ h2 H locs mls cells slots a1 a2 a3 a4 a5 a6 a7)
       | exact lv_ishr hx hb hdg (hK _ _ _ _ h2 H locs mls cells slots a1 a2 a3 a4 a5 a6 a7)
       | (obtain ⟨h1, h2⟩ := z_gd_some.mp h2
          have h1 : ¬ w = 0 := by simpa using h1
          first
          | exact lv_idiv hx hb hdg h1 (hK _ _ _ _ h2 H locs mls cells slots a1 a2 a3 a4 a5 a6 a7)
          | exact lv_irem hx hb hdg h1 (hK _ _ _ _ h2 H locs mls cells slots a1 a2 a3 a4 a5 a6 a7)))
    | (obtain ⟨w, t, rfl, h2⟩ := z_pl_some.mp hr
       obtain ⟨v, t, rfl, h2⟩ := z_pl_some.mp h2
       intro H locs mls cells slots a1 a2 a3 a4 a5 a6 a7
       first
       | exact lv_ladd hx hb hdg (hK _ _ _ _ h2 H locs mls cells slots a1 a2 a3 a4 a5 a6 a7)
       | exact lv_lmul hx hb hdg (hK _ _ _ _ h2 H locs mls cells slots a1 a2 a3 a4 a5 a6 a7)
       | exact lv_land hx hb hdg (hK _ _ _ _ h2 H locs mls cells slots a1 a2 a3 a4 a5 a6 a7)
       | exact lv_lor hx hb hdg (hK _ _ _ _ h2 H locs mls cells slots a1 a2 a3 a4 a5 a6 a7)
       | exact W.lcmp hx hb hdg (hK _ _ _ _ h2 H locs mls cells slots a1 a2 a3 a4 a5 a6 a7)
       | (obtain ⟨h1, h2⟩ := z_gd_some.mp h2
          have h1 : ¬ w = 0 := by simpa using h1
          exact lv_ldiv hx hb hdg h1 (hK _ _ _ _ h2 H locs mls cells slots a1 a2 a3 a4 a5 a6 a7)))
    | (obtain ⟨w, t, rfl, h2⟩ := z_pi_some.mp hr
       obtain ⟨v, t, rfl, h2⟩ := z_pl_some.mp h2
       intro H locs mls cells slots a1 a2 a3 a4 a5 a6 a7
       first
       | exact lv_lshl hx hb hdg rfl (hK _ _ _ _ h2 H locs mls cells slots a1 a2 a3 a4 a5 a6 a7)
       | exact lv_lshr hx hb hdg rfl (hK _ _ _ _ h2 H locs mls cells slots a1 a2 a3 a4 a5 a6 a7))
    | (obtain ⟨w, t, rfl, h2⟩ := z_pi_some.mp hr
       intro H locs mls cells slots a1 a2 a3 a4 a5 a6 a7
       first
       | exact lv_ineg hx hb hdg (hK _ _ _ _ h2 H locs mls cells slots a1 a2 a3 a4 a5 a6 a7)
       | exact lv_i2l hx hb hdg rfl (hK _ _ _ _ h2 H locs mls cells slots a1 a2 a3 a4 a5 a6 a7)
       | exact lv_i2b hx hb hdg rfl (hK _ _ _ _ h2 H locs mls cells slots a1 a2 a3 a4 a5 a6 a7))
    | (obtain ⟨w, t, rfl, h2⟩ := z_pl_some.mp hr
       intro H locs mls cells slots a1 a2 a3 a4 a5 a6 a7
       exact lv_l2i hx hb hdg rfl (hK _ _ _ _ h2 H locs mls cells slots a1 a2 a3 a4 a5 a6 a7))
theorem z_tg_of {pc : Nat} {o : Int} (h : z_tgo pc o = true) : (pc : Int) + o = (z_tg pc o : Int) := by
  unfold z_tgo at h
  have h := of_decide_eq_true h
  unfold z_tg
  omega
theorem z_i32_of {v : Int} (h : z_i32 v = true) : (Int32.ofInt v).toInt = v := by
  unfold z_i32 at h
  simp only [Bool.and_eq_true, decide_eq_true_eq] at h
  rw [Int32.toInt_ofInt]
  have e9 : Int32.size = 4294967296 := rfl
  exact Int.bmod_eq_of_le (by omega) (by omega)
theorem z_sw_look {K : Nat → z_O} {pc : Nat} {v : Int32} {d : Int} : ∀ {ps : List (Int × Int)}, ps.all (fun q => z_tgo pc q.2 && z_i32 q.1) = true → z_tgo pc d = true → z_sw K pc v d ps = some r → ∃ tgt : Nat, (pc : Int) + Op.lookupswitch.offset ps d v.toInt = (tgt : Int) ∧ K tgt = some r
  | [], _, hd, hs => ⟨z_tg pc d, z_tg_of hd, hs⟩
  | q :: t, ha, hd, hs => by
    rw [List.all_cons, Bool.and_eq_true, Bool.and_eq_true] at ha
    obtain ⟨⟨h1, h2⟩, h3⟩ := ha
    unfold z_sw at hs
    by_cases e : v = Int32.ofInt q.1
    · rw [if_pos e] at hs
      refine ⟨z_tg pc q.2, ?_, hs⟩
      have : q.1 = v.toInt := by rw [e, z_i32_of h2]
      rw [← z_tg_of h1]
      congr 1
      simp [Op.lookupswitch.offset, this]
    · rw [if_neg e] at hs
      obtain ⟨tgt, h4, h5⟩ := z_sw_look h3 hd hs
      refine ⟨tgt, ?_, h5⟩
      rw [← h4]
      congr 1
      have : ¬ q.1 = v.toInt := fun q9 => e (by rw [q9]; simp)
      simp [Op.lookupswitch.offset, this]
theorem z_br_some {cd : Jvm.ClassFile.Cond} {v w : Int32} {A B : z_O} (h : z_br cd v w A B = some r) : (match cd with
    | .eq => (v = w ∧ A = some r) ∨ (¬ v = w ∧ B = some r)
    | .ne => (v ≠ w ∧ A = some r) ∨ (¬ v ≠ w ∧ B = some r)
    | .lt => (v < w ∧ A = some r) ∨ (¬ v < w ∧ B = some r)
    | .ge => (w ≤ v ∧ A = some r) ∨ (¬ w ≤ v ∧ B = some r)
    | .gt => (w < v ∧ A = some r) ∨ (¬ w < v ∧ B = some r)
    | .le => (v ≤ w ∧ A = some r) ∨ (¬ v ≤ w ∧ B = some r)) := by
  unfold z_br at h
  cases cd
  · dsimp only at h ⊢
    split at h
    · exact Or.inl ⟨by assumption, h⟩
    · exact Or.inr ⟨by assumption, h⟩
  · dsimp only at h ⊢
    split at h
    · exact Or.inr ⟨fun q => q (by assumption), h⟩
    · exact Or.inl ⟨by assumption, h⟩
  · dsimp only at h ⊢
    split at h
    · exact Or.inl ⟨by assumption, h⟩
    · exact Or.inr ⟨by assumption, h⟩
  · dsimp only at h ⊢
    split at h
    · rename_i q
      exact Or.inr ⟨fun q2 => absurd q (Int32.not_lt.mpr q2), h⟩
    · rename_i q
      exact Or.inl ⟨Int32.not_lt.mp q, h⟩
  · dsimp only at h ⊢
    split at h
    · exact Or.inl ⟨by assumption, h⟩
    · exact Or.inr ⟨by assumption, h⟩
  · dsimp only at h ⊢
    split at h
    · rename_i q
      exact Or.inr ⟨fun q2 => absurd q (Int32.not_lt.mpr q2), h⟩
    · rename_i q
      exact Or.inl ⟨Int32.not_lt.mp q, h⟩
theorem z_tp_in {x lo d : Int} {pc : Nat} {v : Int32} {K : Nat → z_O} : ∀ {os : List Int} {lo : Int}, os.all (z_tgo pc) = true → z_tgo pc d = true → -2147483648 ≤ lo → lo + (os.length : Int) ≤ 2147483648 → z_sw K pc v d (z_tp lo os) = some r → (∃ off, lo ≤ v.toInt ∧ os[(v.toInt - lo).toNat]? = some off ∧ v.toInt < lo + os.length ∧ K (z_tg pc off) = some r ∧ z_tgo pc off = true) ∨ ((v.toInt < lo ∨ lo + os.length ≤ v.toInt) ∧ K (z_tg pc d) = some r)
  | [], lo, _, hd, _, _, hs => Or.inr ⟨by simp; omega, hs⟩
  | o :: t, lo, ha, hd, hl, hh, hs => by
    rw [List.all_cons, Bool.and_eq_true] at ha
    rw [List.length_cons] at hh
    unfold z_tp z_sw at hs
    have e1 : (Int32.ofInt lo).toInt = lo := by
      rw [Int32.toInt_ofInt]
      have e9 : Int32.size = 4294967296 := rfl
      exact Int.bmod_eq_of_le (by omega) (by omega)
    by_cases e : v = Int32.ofInt lo
    · rw [if_pos e] at hs
      have e2 : v.toInt = lo := by rw [e, e1]
      exact Or.inl ⟨o, by omega, by rw [e2]; simp, by rw [List.length_cons]; omega, hs, ha.1⟩
    · rw [if_neg e] at hs
      have e2 : ¬ v.toInt = lo := fun q => e (by rw [← q]; simp)
      rcases z_tp_in (x := x) (lo := lo) ha.2 hd (by omega) (by omega) hs with ⟨off, h1, h2, h3, h4, h5⟩ | ⟨h1, h2⟩
      · refine Or.inl ⟨off, by omega, ?_, by rw [List.length_cons]; omega, h4, h5⟩
        rw [show (v.toInt - lo).toNat = (v.toInt - (lo + 1)).toNat + 1 by omega, List.getElem?_cons_succ]
        exact h2
      · exact Or.inr ⟨by rw [List.length_cons]; omega, h2⟩
theorem z_sn2 (X : z_Cx p s m args meth c D cy base b sc M) (hdg : decode (z_bM M) pc = .ok (ins, len)) (hok : z_sok M pc len 2 ins x y z = true) (hr : z_i2 K ins z pc ls st h = some r) (hK : ∀ pc' ls' st' h', K pc' ls' st' h' = some r → z_at p l e R s m args below meth c Q D cy base b n0 pc' ls' st' h')
    (hri : ∀ pc ls v h, r = (some (z_vi v), h) → decode (z_bM M) pc = .ok (.ireturn, 1) → (z_rM M = some .boolean ∧ z_bo v = true ∨ z_rM M = some .int) → z_at p l e R s m args below meth c Q D cy base b n0 pc ls [z_vi v] h)
    (hrl : ∀ pc ls v h, r = (some (z_vl v), h) → decode (z_bM M) pc = .ok (.lreturn, 1) → z_rM M = some .long → z_at p l e R s m args below meth c Q D cy base b n0 pc ls [z_vl v] h)
    (hrv : ∀ pc ls h, r = (none, h) → decode (z_bM M) pc = .ok (.return_, 1) → z_rM M = none → z_at p l e R s m args below meth c Q D cy base b n0 pc ls [] h) : z_at p l e R s m args below meth c Q D cy base b n0 pc ls st h := by
  obtain ⟨hx, hb, hml, hown, hts, hKK, hin, hscr, hbs⟩ := X
  unfold z_i2 at hr
  split at hr
  · rename_i cd o
    have hok : len = 3 ∧ z_tgo pc o = true := by simpa [z_sok] using hok
    obtain ⟨e, hto⟩ := hok
    subst e
    obtain ⟨w, t, rfl, h2⟩ := z_pi_some.mp hr
    obtain ⟨v, t, rfl, h2⟩ := z_pi_some.mp h2
    have h3 := z_br_some h2
    intro H locs mls cells slots a1 a2 a3 a4 a5 a6 a7
    have go : ∀ {pc' ls' st' h'}, K pc' ls' st' h' = some r → z_at p l e R s m args below meth c Q D cy base b n0 pc' ls' st' h' := hK _ _ _ _
    cases cd
    · exact lv_icmp_eq hx hb hdg (z_tg_of hto) (fun q => h3.elim (fun u => hK _ _ _ _ u.2 H locs mls cells slots a1 a2 a3 a4 a5 a6 a7) (fun u => absurd q u.1)) (fun q => h3.elim (fun u => absurd u.1 q) (fun u => hK _ _ _ _ u.2 H locs mls cells slots a1 a2 a3 a4 a5 a6 a7))
    · exact lv_icmp_ne hx hb hdg (z_tg_of hto) (fun q => h3.elim (fun u => hK _ _ _ _ u.2 H locs mls cells slots a1 a2 a3 a4 a5 a6 a7) (fun u => absurd q u.1)) (fun q => h3.elim (fun u => absurd q u.1) (fun u => hK _ _ _ _ u.2 H locs mls cells slots a1 a2 a3 a4 a5 a6 a7))
    · exact lv_icmp_lt hx hb hdg (z_tg_of hto) (fun q => h3.elim (fun u => hK _ _ _ _ u.2 H locs mls cells slots a1 a2 a3 a4 a5 a6 a7) (fun u => absurd q u.1)) (fun q => h3.elim (fun u => absurd u.1 q) (fun u => hK _ _ _ _ u.2 H locs mls cells slots a1 a2 a3 a4 a5 a6 a7))
    · exact lv_icmp_ge hx hb hdg (z_tg_of hto) (fun q => h3.elim (fun u => hK _ _ _ _ u.2 H locs mls cells slots a1 a2 a3 a4 a5 a6 a7) (fun u => absurd q u.1)) (fun q => h3.elim (fun u => absurd u.1 q) (fun u => hK _ _ _ _ u.2 H locs mls cells slots a1 a2 a3 a4 a5 a6 a7))
    · exact lv_icmp_gt hx hb hdg (z_tg_of hto) (fun q => h3.elim (fun u => hK _ _ _ _ u.2 H locs mls cells slots a1 a2 a3 a4 a5 a6 a7) (fun u => absurd q u.1)) (fun q => h3.elim (fun u => absurd u.1 q) (fun u => hK _ _ _ _ u.2 H locs mls cells slots a1 a2 a3 a4 a5 a6 a7))
    · exact lv_icmp_le hx hb hdg (z_tg_of hto) (fun q => h3.elim (fun u => hK _ _ _ _ u.2 H locs mls cells slots a1 a2 a3 a4 a5 a6 a7) (fun u => absurd q u.1)) (fun q => h3.elim (fun u => absurd u.1 q) (fun u => hK _ _ _ _ u.2 H locs mls cells slots a1 a2 a3 a4 a5 a6 a7))
  · rename_i cd o
    have hok : len = 3 ∧ z_tgo pc o = true := by simpa [z_sok] using hok
    obtain ⟨e, hto⟩ := hok
    subst e
    obtain ⟨v, t, rfl, h2⟩ := z_pi_some.mp hr
    have h3 := z_br_some h2
    intro H locs mls cells slots a1 a2 a3 a4 a5 a6 a7
    cases cd
    · exact lv_if_eq hx hb hdg (z_tg_of hto) (fun q => h3.elim (fun u => hK _ _ _ _ u.2 H locs mls cells slots a1 a2 a3 a4 a5 a6 a7) (fun u => absurd q u.1)) (fun q => h3.elim (fun u => absurd u.1 q) (fun u => hK _ _ _ _ u.2 H locs mls cells slots a1 a2 a3 a4 a5 a6 a7))
    · exact lv_if_ne hx hb hdg (z_tg_of hto) (fun q => h3.elim (fun u => hK _ _ _ _ u.2 H locs mls cells slots a1 a2 a3 a4 a5 a6 a7) (fun u => absurd q u.1)) (fun q => h3.elim (fun u => absurd q u.1) (fun u => hK _ _ _ _ u.2 H locs mls cells slots a1 a2 a3 a4 a5 a6 a7))
    · exact lv_if_lt hx hb hdg (z_tg_of hto) (fun q => h3.elim (fun u => hK _ _ _ _ u.2 H locs mls cells slots a1 a2 a3 a4 a5 a6 a7) (fun u => absurd q u.1)) (fun q => h3.elim (fun u => absurd u.1 q) (fun u => hK _ _ _ _ u.2 H locs mls cells slots a1 a2 a3 a4 a5 a6 a7))
    · exact lv_if_ge hx hb hdg (z_tg_of hto) (fun q => h3.elim (fun u => hK _ _ _ _ u.2 H locs mls cells slots a1 a2 a3 a4 a5 a6 a7) (fun u => absurd q u.1)) (fun q => h3.elim (fun u => absurd u.1 q) (fun u => hK _ _ _ _ u.2 H locs mls cells slots a1 a2 a3 a4 a5 a6 a7))
    · exact lv_if_gt hx hb hdg (z_tg_of hto) (fun q => h3.elim (fun u => hK _ _ _ _ u.2 H locs mls cells slots a1 a2 a3 a4 a5 a6 a7) (fun u => absurd q u.1)) (fun q => h3.elim (fun u => absurd u.1 q) (fun u => hK _ _ _ _ u.2 H locs mls cells slots a1 a2 a3 a4 a5 a6 a7))
    · exact lv_if_le hx hb hdg (z_tg_of hto) (fun q => h3.elim (fun u => hK _ _ _ _ u.2 H locs mls cells slots a1 a2 a3 a4 a5 a6 a7) (fun u => absurd q u.1)) (fun q => h3.elim (fun u => absurd u.1 q) (fun u => hK _ _ _ _ u.2 H locs mls cells slots a1 a2 a3 a4 a5 a6 a7))
  · rename_i o
    have hok : len = 3 ∧ z_tgo pc o = true := by simpa [z_sok] using hok
    obtain ⟨e, hto⟩ := hok
    subst e
    intro H locs mls cells slots a1 a2 a3 a4 a5 a6 a7
    exact lv_goto hx hb hdg (z_tg_of hto) (hK _ _ _ _ hr H locs mls cells slots a1 a2 a3 a4 a5 a6 a7)
  · rename_i d lo hi os
    have hok : (((z_tgo pc d = true ∧ os.toList.all (z_tgo pc) = true) ∧ z_i32 lo = true) ∧ z_i32 hi = true) ∧ hi = lo + (os.size : Int) - 1 := by
      unfold z_sok at hok
      simp only [Bool.and_eq_true, decide_eq_true_eq] at hok
      exact ⟨⟨⟨⟨hok.1.1.1.1.2, hok.1.1.1.2⟩, hok.1.1.2⟩, hok.1.2⟩, hok.2⟩
    obtain ⟨⟨⟨⟨k1, k2⟩, k3⟩, k4⟩, k5⟩ := hok
    obtain ⟨v, t, rfl, h2⟩ := z_pi_some.mp hr
    have k3' : -2147483648 ≤ lo := by
      unfold z_i32 at k3
      simp only [Bool.and_eq_true, decide_eq_true_eq] at k3
      exact k3.1
    have k4' : hi < 2147483648 := by
      unfold z_i32 at k4
      simp only [Bool.and_eq_true, decide_eq_true_eq] at k4
      exact k4.2
    have ks : (os.toList.length : Int) = os.size := by simp
    intro H locs mls cells slots a1 a2 a3 a4 a5 a6 a7
    rcases z_tp_in (x := 0) (lo := lo) k2 k1 k3' (by omega) h2 with ⟨off, h1, h3, h4, h5, h6⟩ | ⟨h1, h3⟩
    · exact lv_tableIn hx hb hdg (by omega) (by omega) (by rw [← h3]; simp) (z_tg_of h6) (hK _ _ _ _ h5 H locs mls cells slots a1 a2 a3 a4 a5 a6 a7)
    · exact lv_tableOut hx hb hdg (by omega) (z_tg_of k1) (hK _ _ _ _ h3 H locs mls cells slots a1 a2 a3 a4 a5 a6 a7)
  · rename_i d ps
    unfold z_sok at hok
    simp only [Bool.and_eq_true] at hok
    obtain ⟨⟨⟨-, k1⟩, k2⟩, k3⟩ := hok
    obtain ⟨v, t, rfl, h2⟩ := z_pi_some.mp hr
    obtain ⟨tgt, h3, h4⟩ := z_sw_look k2 k1 h2
    intro H locs mls cells slots a1 a2 a3 a4 a5 a6 a7
    exact lv_lookup hx hb hdg k3 rfl h3 (hK _ _ _ _ h4 H locs mls cells slots a1 a2 a3 a4 a5 a6 a7)
  · split at hr
    · rename_i v
      unfold z_sok at hok
      simp only [Bool.and_eq_true] at hok
      obtain ⟨⟨k1, -⟩, k2⟩ := hok
      have e := z_beq k1
      subst e
      split at hr
      · obtain ⟨h1, h2⟩ := z_gd_some.mp hr
        exact hri _ _ _ _ (Option.some.inj h2).symm hdg (Or.inl ⟨of_decide_eq_true k2, h1⟩)
      · split at k2
        · exact absurd rfl (by assumption)
        · exact hri _ _ _ _ (Option.some.inj hr).symm hdg (Or.inr (of_decide_eq_true k2))
        · cases k2
    · cases hr
  · split at hr
    · rename_i v
      unfold z_sok at hok
      simp only [Bool.and_eq_true] at hok
      obtain ⟨⟨k1, -⟩, k2⟩ := hok
      have e := z_beq k1
      subst e
      exact hrl _ _ _ _ (Option.some.inj hr).symm hdg (of_decide_eq_true k2)
    · cases hr
  · split at hr
    · unfold z_sok at hok
      simp only [Bool.and_eq_true] at hok
      obtain ⟨⟨k1, -⟩, k2⟩ := hok
      have e := z_beq k1
      subst e
      exact hrv _ _ _ (Option.some.inj hr).symm hdg (of_decide_eq_true k2)
    · cases hr
  · cases hr
end SN
end
section
/-! group 3: fields, rows, what is made -/
theorem z_cT1 (c k : Nat) (hc : c < 8) (hk : k < z_cN c) : (z_cT c k).1 = z_cC c := by
  have key : ∀ c, c < 8 → ((List.range (z_cN c)).all fun k => decide ((z_cT c k).1 = z_cC c)) = true := by
    intro c hc
    match c, hc with
    | 0, _ => decide +kernel
    | 1, _ => decide +kernel
    | 2, _ => decide +kernel
    | 3, _ => decide +kernel
    | 4, _ => decide +kernel
    | 5, _ => decide +kernel
    | 6, _ => decide +kernel
    | 7, _ => decide +kernel
  exact of_decide_eq_true (List.all_eq_true.mp (key c hc) k (List.mem_range.mpr hk))
def z_kty (z : Nat) (ty : FieldType) : Bool := match z with
  | 0 => decide (ty = .int)
  | 1 => (match ty with
    | .object _ => true
    | .array _ => true
    | _ => false)
  | 2 => decide (ty = .long)
  | 3 => decide (ty = .boolean)
  | _ => false
theorem z_cYk (c k : Nat) (hc : c < 8) (hk : k < z_cN c) : z_kty (z_fk c k) (z_cY c k) = true := by
  have key : ∀ c, c < 8 → ((List.range (z_cN c)).all fun k => z_kty (z_fk c k) (z_cY c k)) = true := by
    intro c hc
    match c, hc with
    | 0, _ => decide +kernel
    | 1, _ => decide +kernel
    | 2, _ => decide +kernel
    | 3, _ => decide +kernel
    | 4, _ => decide +kernel
    | 5, _ => decide +kernel
    | 6, _ => decide +kernel
    | 7, _ => decide +kernel
  exact List.all_eq_true.mp (key c hc) k (List.mem_range.mpr hk)
theorem z_tv_ref {base b i : Nat} : z_tv base b (z_vr (i + 2)) = .ref (base + i) := by
  show va_rf (z_ro base b (i + 2)) = _
  unfold z_ro z_ad
  rw [if_neg (by omega), if_neg (by omega), show i + 2 - 2 = i by omega]
  rfl
theorem z_ro_ref {base b i : Nat} : z_ro base b (i + 2) = some (base + i) := by
  unfold z_ro z_ad
  rw [if_neg (by omega), if_neg (by omega), show i + 2 - 2 = i by omega]
theorem z_fs_at {base b : Nat} {h : z_Hp} {a c k : Nat} (hk : k < z_cN c) : (z_fs base b h a c)[k]? = some (z_fv base b h a k (z_fk c k)) := by
  unfold z_fs
  rw [List.getElem?_map, List.getElem?_range hk]
  rfl
theorem z_fs_V {base b : Nat} {h : z_Hp} {a c k : Nat} (hk : k < z_cN c) : vp_V (z_fs base b h a c) k = z_fv base b h a k (z_fk c k) := by
  unfold vp_V
  rw [List.getD_eq_getElem?_getD, z_fs_at hk]
  rfl
theorem z_clsAt {D : va_G} {cy : Nat → ClassId} {base b : Nat} {h : z_Hp} {H : Heap} (hP : va_P D vwCl (z_wl cy base b h) H) {i c : Nat} (hi : i < h.1) (hk : (w_kd (i + 2)).1 = c) (hc : c < 8) : t_OB (base + i) (D.1 c) (z_cN c) (D.2 c) H (vp_V (z_fs base b h (i + 2) c)) := by
  have h1 := hP i _ (z_wl_get hi)
  rw [z_cel_ob hk hc] at h1
  obtain ⟨r, h2, h3⟩ := h1
  have e := (z_cOK c hc).1
  have h2 : vwCl[c]? = some r := h2
  rw [e] at h2
  cases h2
  exact h3
theorem z_arrAt {D : va_G} {cy : Nat → ClassId} {base b : Nat} {h : z_Hp} {H : Heap} (hP : va_P D vwCl (z_wl cy base b h) H) {i t : Nat} (hi : i < h.1) (hk : (w_kd (i + 2)).1 = t) (ht : ¬ t < 8) : H[base + i]? = some (vp_cell (cy t) (z_arr base b h (i + 2) t (w_kd (i + 2)).2)) := by
  have h1 := hP i _ (z_wl_get hi)
  rw [z_cel_ar hk ht] at h1
  exact h1
theorem z_clsTo {D : va_G} {cy : Nat → ClassId} {base b : Nat} {h : z_Hp} {H : Heap} {i c : Nat} (hk : (w_kd (i + 2)).1 = c) (hc : c < 8) (h1 : t_OB (base + i) (D.1 c) (z_cN c) (D.2 c) H (vp_V (z_fs base b h (i + 2) c))) : va_at D vwCl (base + i, z_cel cy base b h (i + 2)) H := by
  rw [z_cel_ob hk hc]
  exact ⟨_, (z_cOK c hc).1, h1⟩
theorem z_arrTo {D : va_G} {cy : Nat → ClassId} {base b : Nat} {h : z_Hp} {H : Heap} {i t : Nat} (hk : (w_kd (i + 2)).1 = t) (ht : ¬ t < 8) (h1 : H[base + i]? = some (vp_cell (cy t) (z_arr base b h (i + 2) t (w_kd (i + 2)).2))) : va_at D vwCl (base + i, z_cel cy base b h (i + 2)) H := by
  rw [z_cel_ar hk ht]
  exact h1
theorem z_sI_cel {cy : Nat → ClassId} {base b : Nat} {h : z_Hp} {i k : Nat} {v : Int32} (j : Nat) (hj : j ≠ i) : z_cel cy base b (z_sI h (i + 2) k v) (j + 2) = z_cel cy base b h (j + 2) := z_cel_cg (z_row_ne (by omega)) rfl rfl
theorem z_sF_cel {cy : Nat → ClassId} {base b : Nat} {h : z_Hp} {i k : Nat} {v : Nat} (j : Nat) (hj : j ≠ i) : z_cel cy base b (z_sF h (i + 2) k v) (j + 2) = z_cel cy base b h (j + 2) := z_cel_cg rfl (z_row_ne (by omega)) rfl
theorem z_sJ_cel {cy : Nat → ClassId} {base b : Nat} {h : z_Hp} {i k : Nat} {v : Int64} (j : Nat) (hj : j ≠ i) : z_cel cy base b (z_sJ h (i + 2) k v) (j + 2) = z_cel cy base b h (j + 2) := z_cel_cg rfl rfl (z_row_ne (by omega))
section SN3
variable {p : Program} {l : Launch} {e : Env} {R : Room} {s : State} {m : MethodId} {args : Array Value} {below : List Frame} {meth : Method} {c : Code} {Q : State → Prop} {D : va_G} {cy : Nat → ClassId} {base b n0 : Nat} {sc : z_Sc} {M : Nat}
variable {pc len : Nat} {ls : z_Ls} {st : List z_V} {h : z_Hp} {ins : Jvm.ClassFile.Instr} {x y z : Nat} {K : z_K} {r : z_R}
/-- a field is written -/
theorem z_put (X : z_Cx p s m args meth c D cy base b sc M) {n len : Nat} (hdg : decode (z_bM M) pc = .ok (.putfield n, len)) (hok : z_sok M pc len 3 (.putfield n) x y z = true) {q : Nat × Nat} (hw : z_wp q = z_wd (z_yM M).cls (.putfield n) x y z) {i : Nat} {v : z_V} {h' : z_Hp} (hob : z_ob h (i + 2) x = true) (h1 : h'.1 = h.1) (hc : ∀ j, j ≠ i → z_cel cy base b h' (j + 2) = z_cel cy base b h (j + 2))
    (hn : narrow (z_cY x y) (z_tv base b v) = z_tv base b v) (hf : fits (z_cY x y) (z_tv base b v) = true) (hv : ∀ k, k < z_cN x → z_fv base b h' (i + 2) k (z_fk x k) = if k = y then z_tv base b v else z_fv base b h (i + 2) k (z_fk x k)) {t : List z_V} (kk : z_at p l e R s m args below meth c Q D cy base b n0 (pc + 3) ls t h') : z_at p l e R s m args below meth c Q D cy base b n0 pc ls (v :: z_vr (i + 2) :: t) h := by
  obtain ⟨hx, hb, hml, hown, hts, hKK, hin, hscr, hbs⟩ := X
  unfold z_sok at hok
  simp only [Bool.and_eq_true, Nat.blt_eq] at hok
  obtain ⟨⟨⟨⟨⟨k1, -⟩, k3⟩, k4⟩, -⟩, k6⟩ := hok
  have e := z_beq k1
  subst e
  obtain ⟨i', e1, hi, hkd⟩ := z_ob_spec k3 hob
  have e1 : i' = i := by omega
  subst e1
  obtain ⟨o1, o2, o3, o4⟩ := z_cOK x k3
  have hlink := hts _ (z_wp_W hw rfl)
  intro H locs mls cells slots a1 a2 a3 a4 a5 a6 a7
  have hob := z_clsAt a2 hi hkd k3
  obtain ⟨cell, q1, q2, q3, q4⟩ := hob
  have hKn := hKK.1.1 x _ o1
  have hap := va_apart (own := (z_yM M).cls) hts o2 (z_cY x) o3 o4 hKK.1 o1
  obtain ⟨hS, hfc, kC, hkC, hkind⟩ := hKn
  obtain ⟨cf, kf, fi, f, hi2, hsl⟩ := hS y k4
  have hlays := u_lays hts o2 k4
  have hst := (u_facts hfc hkC hlays hi2).1
  have hty := o3 y k4
  have hT1 := z_cT1 x y k3 k4
  have hi3 : s.fieldFound? (z_cC x) (z_cT x y).2.1 (z_cT x y).2.2.1 = some (cf, kf, fi, f) := by rw [← hT1]; exact hi2
  rw [List.map_cons, List.map_cons, z_tv_ref]
  have hend : ∀ H1 : Heap, H1[base + i']? = some (cell.setSlot f.slot (z_tv base b v)) → H1.size = H.size → (∀ q, q ≠ base + i' → H1[q]? = H[q]?) → W p l e R s m args below meth c H1 (locs ++ [⟨base + i', f.slot⟩]) cells slots Q (F0 m (pc + 3) mls (t.map (z_tv base b))) := by
    intro H1 e1 e2 e3
    refine kk H1 _ mls cells slots (by rw [e2, a1, h1]) (z_wput a2 h1 hc ?_ e3) (a3.put e2 e3 (Nat.le_add_right _ _)) a4 (by rw [h1]; exact a5) (by rw [h1]; exact a6) (by rw [h1]; exact a7)
    refine z_clsTo hkd k3 ?_
    rw [hsl] at e1
    refine t_OB.to (V := updV (vp_V (z_fs base b h (i' + 2) x)) y (z_tv base b v)) ⟨_, e1, q2, q3, t_set q4 hap k4 _⟩ (fun k hk => ?_)
    rw [z_fs_V hk, hv k hk]
    unfold updV
    split
    · rfl
    · exact z_fs_V hk
  rcases hfin : (z_cT x y).2.2.2 with _ | _
  · have hlay := hts _ (o2 _ (u_in_lay k4))
    unfold u_lay at hlay
    rw [if_neg (by rw [hfin]; decide)] at hlay
    have h6 := u_store hfc hkC hkind hlay hi2 hty hn hf
    exact W.putK hx hb (f := f) ⟨hown, hlink, ⟨_, _, _, hi3⟩, hst⟩ (by rw [q2]; exact h6) q1 q3 (by rw [hsl]; exact k2_hasslot (q4 y k4)) rfl rfl hdg hend
  · have hlay := hts _ (o2 _ (u_in_lay k4))
    unfold u_lay at hlay
    rw [if_pos hfin] at hlay
    rw [hfin] at k6
    simp only [Bool.not_true, Bool.false_or, Bool.and_eq_true, decide_eq_true_eq] at k6
    have hcf : m.cls = cf := by
      obtain ⟨_, _, c', _, _, _, -, -, hf', -, -, -, hown2, -⟩ := Cond.laysFinal_spec hlay
      have e1 : c' = cf := by have := hi2.symm.trans hf'; simp at this; exact this.1.symm
      rw [k6.2] at hown2
      rw [← e1]; exact Option.some.inj (hown.symm.trans hown2)
    have h6 := u_fits hfc hkC hkind (Or.inr hlay) hi2 hty hn hf
    exact W.putFinK hx hb hown hlink hi3 hst hcf (hin k6.1) (by rw [q2]; exact h6) q1 q3 (by rw [hsl]; exact k2_hasslot (q4 y k4)) rfl rfl hdg hend
theorem z_ref_fits {ty : FieldType} {base b a : Nat} (h : z_kty 1 ty = true) : narrow ty (z_tv base b (z_vr a)) = z_tv base b (z_vr a) ∧ fits ty (z_tv base b (z_vr a)) = true := by
  show narrow ty (va_rf (z_ro base b a)) = va_rf (z_ro base b a) ∧ fits ty (va_rf (z_ro base b a)) = true
  cases ty with
  | object q => rcases z_ro base b a with _ | w <;> exact ⟨rfl, rfl⟩
  | array q => rcases z_ro base b a with _ | w <;> exact ⟨rfl, rfl⟩
  | _ => cases h
theorem z_bo_of {v : Int32} (h : z_bo v = true) : v = 0 ∨ v = 1 := by
  unfold z_bo at h
  simpa using h
end SN3
end
section
/-! A ROW OF ROWS OF INTS is made: the outer row, then each inner one put into it -/
def z_mrow (h0 i : Nat) : Nat → Value := fun j => if j < i then .ref (h0 + 1 + j) else .null
def z_mst (T : State) (cA cB : ClassId) (N K : Nat) : Nat → State
  | 0 => T.pushCell (arrV cA N (z_mrow T.heap.size 0))
  | i + 1 => ((z_mst T cA cB N K i).pushCell (arrV cB K (fun _ => .int 0))).setCell T.heap.size (arrV cA N (z_mrow T.heap.size (i + 1)))
theorem z_mrow_up (h0 i : Nat) : updV (z_mrow h0 i) i (.ref (h0 + 1 + i)) = z_mrow h0 (i + 1) := by
  funext j
  unfold updV z_mrow
  by_cases e : j = i
  · subst e
    rw [if_pos rfl, if_pos (Nat.lt_succ_self j)]
  · rw [if_neg e]
    by_cases h : j < i
    · rw [if_pos h, if_pos (Nat.lt_succ_of_lt h)]
    · rw [if_neg h, if_neg (by omega)]
theorem z_mst_f (T : State) (cA cB : ClassId) (N K : Nat) : ∀ i, (z_mst T cA cB N K i).heap.size = T.heap.size + 1 + i ∧ (z_mst T cA cB N K i).heap[T.heap.size]? = some (arrV cA N (z_mrow T.heap.size i)) ∧ (z_mst T cA cB N K i).vm = T.vm ∧ (z_mst T cA cB N K i).slotsUsed = T.slotsUsed + N + i * K
  | 0 => ⟨by simp [z_mst], by simp [z_mst], rfl, by simp [z_mst, arrV_size]⟩
  | i + 1 => by
    obtain ⟨q1, q2, q3, q4⟩ := z_mst_f T cA cB N K i
    have hlt : T.heap.size < (z_mst T cA cB N K i).heap.size := by omega
    have q5 : ((z_mst T cA cB N K i).pushCell (arrV cB K (fun _ => .int 0))).heap[T.heap.size]? = some (arrV cA N (z_mrow T.heap.size i)) := by rw [State.heap_pushCell_of_lt (h := hlt)]; exact q2
    refine ⟨?_, State.heap_setCell_self q5, by simp [z_mst, q3], ?_⟩
    · simp [z_mst, State.setCell, q1]; omega
    · simp [z_mst, q4, arrV_size, Nat.succ_mul]; omega
theorem z_mst_old (T : State) (cA cB : ClassId) (N K : Nat) {q : Nat} (hq : q < T.heap.size) : ∀ i, (z_mst T cA cB N K i).heap[q]? = T.heap[q]?
  | 0 => State.heap_pushCell_of_lt _ _ hq
  | i + 1 => by
    have f1 := (z_mst_f T cA cB N K i).1
    have hlt : q < (z_mst T cA cB N K i).heap.size := by rw [f1]; omega
    show (((z_mst T cA cB N K i).pushCell _).setCell T.heap.size _).heap[q]? = _
    rw [State.heap_setCell_other (Nat.ne_of_gt hq), State.heap_pushCell_of_lt (h := hlt)]
    exact z_mst_old T cA cB N K hq i
theorem z_mst_in (T : State) (cA cB : ClassId) (N K : Nat) : ∀ i j, j < i → (z_mst T cA cB N K i).heap[T.heap.size + 1 + j]? = some (arrV cB K (fun _ => .int 0))
  | 0, _, h => absurd h (Nat.not_lt_zero _)
  | i + 1, j, h => by
    have f1 := (z_mst_f T cA cB N K i).1
    show (((z_mst T cA cB N K i).pushCell _).setCell T.heap.size _).heap[T.heap.size + 1 + j]? = _
    rw [State.heap_setCell_other (show T.heap.size ≠ T.heap.size + 1 + j by omega)]
    rcases Nat.lt_or_ge j i with hj | hj
    · have hlt : T.heap.size + 1 + j < (z_mst T cA cB N K i).heap.size := by rw [f1]; omega
      rw [State.heap_pushCell_of_lt (h := hlt)]
      exact z_mst_in T cA cB N K i j hj
    · have e : j = i := by omega
      subst e
      rw [← f1]
      exact State.heap_pushCell_size _ _
theorem z_mst_top (T : State) (f : JFrame) (cA cB : ClassId) (N K : Nat) : ∀ i, z_mst (T.setTop f) cA cB N K i = (z_mst T cA cB N K i).setTop f
  | 0 => rfl
  | i + 1 => by simp only [z_mst, z_mst_top T f cA cB N K i, State.heap_setTop, State.pushCell_setTop, State.setCell_setTop]
section MN
variable {E : CtlPost} {e : Env} {d : Bool} {acts : List Action} {s : State}
theorem z_wpna {cA comp : ClassId} {k : Class} {type : FieldType} {len : Nat} {init : Value} (hk : s.vm.classes[cA]? = some k) (hkind : k.kind = .array comp type) (hl : ¬ len > e.platform.arrayLengthLimit) (hh : ¬ len * componentBytes type > e.platform.maxHeapBytes) (hfit : fits type init = true) (hdef : init.isDefault = true) {Q : Addr → Pre}
    (h1 : s.heap.size < e.platform.maxCells) (h2 : s.slotsUsed + len ≤ e.platform.maxSlots) (hq : Q s.heap.size d acts (s.pushCell (arrV cA len (fun _ => init)))) : wp (Jvm.newArray cA len init) Q E e d acts s := by
  have hfits : ∀ i v, (Array.replicate len init)[i]? = some v → s.fitsSlot cA .none i v = true := by
    intro i v hv
    rw [Array.getElem?_replicate] at hv
    split at hv
    · cases hv
      simp [State.fitsSlot, State.slotType?, hk, hkind, hfit]
    · cases hv
  have hall : ((Array.replicate len init).all (·.isDefault)) = true := by
    rw [Array.all_replicate]
    split <;> simp [hdef]
  have hda : allocActs (Array.replicate len init) s.heap.size acts = acts := by
    unfold allocActs
    rw [if_pos hall]
  simp only [Jvm.newArray, Jvm.arrayFits, wp_bind', W.ask, W.ite, hl, if_false, wp_pure', W.theClass, hk, hkind, hh, W.alloc, W.stop, Option.some.injEq, exists_eq_left', Array.size_replicate, hda]
  rw [if_neg (by omega)]
  rw [← arrV_new] at hq
  exact ⟨h1, h2, hfits, hq⟩
theorem z_wpm1 {cB cc : ClassId} {kc : Class} {n : Int32} (hkc : s.vm.classes[cB]? = some kc) (hkind : kc.kind = .array cc .int) (hn : ¬ n < 0) (hl : ¬ n.toNatClampNeg > e.platform.arrayLengthLimit) (hh : ¬ n.toNatClampNeg * componentBytes .int > e.platform.maxHeapBytes)
    (h1 : s.heap.size < e.platform.maxCells) (h2 : s.slotsUsed + n.toNatClampNeg ≤ e.platform.maxSlots) {Q : Addr → Pre} (hq : Q s.heap.size d acts (s.pushCell (arrV cB n.toNatClampNeg (fun _ => .int 0)))) : wp (Op.multianewarray.make cB [n]) Q E e d acts s := by
  rw [Op.multianewarray.make]
  simp only [wp_bind', W.ite, hn, if_false, wp_pure', W.theClass, hkc, hkind, Option.some.injEq, exists_eq_left']
  exact z_wpna hkc hkind hl hh rfl rfl h1 h2 hq
theorem z_wpm2 {cA cB cc : ClassId} {k kc : Class} {n m : Int32} (hk : s.vm.classes[cA]? = some k) (hkind : k.kind = .array cB (.array .int)) (hkc : s.vm.classes[cB]? = some kc) (hkindc : kc.kind = .array cc .int) (hn : ¬ n < 0) (hm : ¬ m < 0)
    (hl1 : ¬ n.toNatClampNeg > e.platform.arrayLengthLimit) (hh1 : ¬ n.toNatClampNeg * componentBytes (.array .int) > e.platform.maxHeapBytes) (hl2 : ¬ m.toNatClampNeg > e.platform.arrayLengthLimit) (hh2 : ¬ m.toNatClampNeg * componentBytes .int > e.platform.maxHeapBytes)
    (hc : s.heap.size + 1 + n.toNatClampNeg ≤ e.platform.maxCells) (hs : s.slotsUsed + n.toNatClampNeg + n.toNatClampNeg * m.toNatClampNeg ≤ e.platform.maxSlots) {Q : Addr → Pre} (hq : ∀ d' acts', Q s.heap.size d' acts' (z_mst s cA cB n.toNatClampNeg m.toNatClampNeg n.toNatClampNeg)) : wp (Op.multianewarray.make cA [n, m]) Q E e d acts s := by
  have hfind : ([m].find? (· < 0)) = none := by simp [hm]
  rw [Op.multianewarray.make]
  simp only [wp_bind', W.ite, hn, if_false, wp_pure', W.theClass, hk, hkind, Option.some.injEq, exists_eq_left']
  refine z_wpna hk hkind hl1 hh1 rfl rfl (by omega) (by have := Nat.zero_le (n.toNatClampNeg * m.toNatClampNeg); omega) ?_
  simp only [hfind]
  rw [ite_self, wp_bind', Std.Legacy.Range.forIn_eq_forIn_range']
  rw [show ([:n.toNatClampNeg] : Std.Legacy.Range).size = n.toNatClampNeg by simp [Std.Legacy.Range.size]]
  show wp (forIn (List.range' 0 n.toNatClampNeg 1) PUnit.unit _) _ E e d acts _
  refine wp_forIn_inv (fun rest s' => ∃ i, i ≤ n.toNatClampNeg ∧ rest = List.range' i (n.toNatClampNeg - i) ∧ s' = z_mst s cA cB n.toNatClampNeg m.toNatClampNeg i) _ _ ⟨0, Nat.zero_le _, rfl, rfl⟩ ?_ ?_
  · rintro x rest s' d' acts' Q' ⟨i, hi, hl, rfl⟩ hnext
    have hlt : i < n.toNatClampNeg := by
      rcases Nat.lt_or_ge i n.toNatClampNeg with h | h
      · exact h
      · rw [show n.toNatClampNeg - i = 0 by omega] at hl; simp at hl
    obtain ⟨rfl, hrest⟩ : x = i ∧ rest = List.range' (i + 1) (n.toNatClampNeg - (i + 1)) := by
      rw [show n.toNatClampNeg - i = (n.toNatClampNeg - (i + 1)) + 1 by omega, List.range'_succ] at hl
      exact ⟨(List.cons.inj hl).1, (List.cons.inj hl).2⟩
    obtain ⟨f1, f2, f3, f4⟩ := z_mst_f s cA cB n.toNatClampNeg m.toNatClampNeg x
    have hmul : x * m.toNatClampNeg + m.toNatClampNeg ≤ n.toNatClampNeg * m.toNatClampNeg := by
      have := Nat.mul_le_mul_right m.toNatClampNeg (show x + 1 ≤ n.toNatClampNeg from hlt)
      rw [Nat.succ_mul] at this; exact this
    simp only [wp_bind']
    refine z_wpm1 (by rw [f3]; exact hkc) hkindc hm hl2 hh2 (by rw [f1]; omega) (by rw [f4]; omega) ?_
    have hlt0 : s.heap.size < (z_mst s cA cB n.toNatClampNeg m.toNatClampNeg x).heap.size := by rw [f1]; omega
    simp only [wp_bind', W.writeLoc, wp_pure']
    refine ⟨arrV cA n.toNatClampNeg (z_mrow s.heap.size x), by rw [State.heap_pushCell_of_lt (h := hlt0)]; exact f2, by simp [arrV], by rw [arrV_size]; exact hlt, ?_, hnext _ _ _ ⟨x + 1, hlt, hrest, ?_⟩⟩
    · simp [State.fitsSlot, State.slotType?, f3, hk, hkind, arrV, fits]
    · rw [f1, arrV_store, z_mrow_up]; rfl
  · rintro s' d' acts' ⟨i, hi, hl, rfl⟩
    have hiN : i = n.toNatClampNeg := by
      rcases Nat.lt_or_ge i n.toNatClampNeg with h | h
      · rw [show n.toNatClampNeg - i = (n.toNatClampNeg - (i + 1)) + 1 by omega, List.range'_succ] at hl; cases hl
      · omega
    subst hiN
    simp only [wp_pure']
    exact hq _ _
end MN
section MN2
variable {p : Program} {l : Launch} {e : Env} {R : Room} {s : State} {m : MethodId} {args : Array Value} {below : List Frame} {meth : Method} {c : Code} {T : State} {H : Heap} {locs : List Loc} {cells slots : Nat} {Q : State → Prop}
theorem z_mst_X (X : Stand p l e R s m args below meth c T locs cells slots) (cA cB : ClassId) (N K : Nat) : ∀ i, Stand p l e R s m args below meth c (z_mst T cA cB N K i) (locs ++ (List.range i).map fun j => ⟨T.heap.size, j⟩) (cells + 1 + i) (slots + N + i * K)
  | 0 => by
    have h := X.pushed (arrV cA N (z_mrow T.heap.size 0))
    rw [arrV_size] at h
    simpa [z_mst] using h
  | i + 1 => by
    have Xi := z_mst_X X cA cB N K i
    obtain ⟨f1, f2, f3, f4⟩ := z_mst_f T cA cB N K i
    have hlt0 : T.heap.size < (z_mst T cA cB N K i).heap.size := by rw [f1]; omega
    have hcell : ((z_mst T cA cB N K i).pushCell (arrV cB K (fun _ => .int 0))).heap[T.heap.size]? = some (arrV cA N (z_mrow T.heap.size i)) := by rw [State.heap_pushCell_of_lt (h := hlt0)]; exact f2
    have h := (Xi.pushed (arrV cB K (fun _ => .int 0))).stored hcell i (.ref (T.heap.size + 1 + i))
    rw [arrV_size, arrV_store, z_mrow_up] at h
    have e2 : (locs ++ (List.range (i + 1)).map fun j => (⟨T.heap.size, j⟩ : Loc)) = (locs ++ (List.range i).map fun j => (⟨T.heap.size, j⟩ : Loc)) ++ [⟨T.heap.size, i⟩] := by simp [List.range_succ, List.append_assoc]
    have e3 : slots + N + (i + 1) * K = slots + N + i * K + K := by rw [Nat.succ_mul]; omega
    rw [e2, e3]
    exact h
theorem z_mnew {cc : ByteArray} (hexec : p.tables.exec = Jvm.exec) (hb : c.code = cc) {own : String} {index : Nat} (hown : s.vm.findClass own = some m.cls) (hclink : (Cond.classLink own index "[[I").before args s = true) (hover : (Cond.arrayOver (.array .int)).before args s = true) (harr : (Cond.arrayClass .int).before args s = true)
    {pc : Nat} {ls : Array Slot} {rest : List Value} (hdg : decode cc pc = .ok (.multianewarray index 2, 4)) {n k : Int32} (hn : ¬ n < 0) (hk : ¬ k < 0) (hb1 : n.toNatClampNeg ≤ 10000) (hb2 : k.toNatClampNeg ≤ 10000)
    (hcells : cells + (1 + n.toNatClampNeg) ≤ R.cells) (hslots : slots + (n.toNatClampNeg + n.toNatClampNeg * k.toNatClampNeg) ≤ R.slots)
    (kk : ∀ (H' : Heap) (cA cB : ClassId), s.vm.findClass "[[I" = some cA → s.vm.findClass "[I" = some cB → H'.size = H.size + 1 + n.toNatClampNeg → H'[H.size]? = some (arrV cA n.toNatClampNeg (z_mrow H.size n.toNatClampNeg)) → (∀ j, j < n.toNatClampNeg → H'[H.size + 1 + j]? = some (arrV cB k.toNatClampNeg (fun _ => .int 0))) → (∀ q : Nat, q < H.size → H'[q]? = H[q]?) →
      W p l e R s m args below meth c H' (locs ++ (List.range n.toNatClampNeg).map fun j => ⟨H.size, j⟩) (cells + 1 + n.toNatClampNeg) (slots + n.toNatClampNeg + n.toNatClampNeg * k.toNatClampNeg) Q (F0 m (pc + 4) ls (.ref H.size :: rest))) : W p l e R s m args below meth c H locs cells slots Q (F0 m pc ls (.int k :: .int n :: rest)) := by
  intro T hT X
  subst hT; subst hb
  have hpl : e.platform.magicAccessors = ({} : Platform).magicAccessors := by rw [X.admits.platform]
  obtain ⟨cB, cA, kA, hcomp, -, hkA, hkindA, hnameA⟩ := arrayOverA_spec hover
  obtain ⟨cB', kC, cc, hcomp', hkC, hkindC⟩ := Cond.arrayClass_spec harr
  have ecomp : cB' = cB := Option.some.inj (hcomp'.symm.trans hcomp)
  subst ecomp
  obtain ⟨c0, hfc0, hcl⟩ := Cond.classLink_spec hown hclink e.platform hpl
  have hnameA' : s.vm.findClass "[[I" = some cA := hnameA
  cases hnameA'.symm.trans hfc0
  obtain ⟨hg₁, hwarm₁, hready₁⟩ := State.classEntry (e := e) X.warmed hcl
  generalize T.vm.noted m.cls index (.cls cA) = vm₁ at hg₁ hwarm₁ hready₁
  have hal : s.vm.Alike vm₁ := hwarm₁.alike
  obtain ⟨kA₁, hkA₁, heA⟩ := hal.2.2 _ _ hkA
  obtain ⟨kC₁, hkC₁, heC⟩ := hal.2.2 _ _ hkC
  have hkindA₁ : kA₁.kind = .array cB' (.array .int) := by rw [heA]; exact hkindA
  have hkindC₁ : kC₁.kind = .array cc .int := by rw [heC]; exact hkindC
  have X₁ := X.noted hwarm₁
  obtain ⟨hr1, hr2⟩ := X.roomAbove hcells hslots
  have XF := z_mst_X X₁ cA cB' n.toNatClampNeg k.toNatClampNeg n.toNatClampNeg
  obtain ⟨f1, f2, -, -⟩ := z_mst_f (T.setVm vm₁) cA cB' n.toNatClampNeg k.toNatClampNeg n.toNatClampNeg
  obtain ⟨t, a1, b1⟩ := kk _ cA cB' hnameA' hcomp f1 f2 (fun j hj => z_mst_in (T.setVm vm₁) cA cB' n.toNatClampNeg k.toNatClampNeg n.toNatClampNeg j hj) (fun q hq => z_mst_old (T.setVm vm₁) cA cB' n.toNatClampNeg k.toNatClampNeg hq n.toNatClampNeg) _ rfl XF
  refine ⟨t, ?_, b1⟩
  have hl1 : ¬ n.toNatClampNeg > e.platform.arrayLengthLimit := by rw [Launch.admits_arrayLengthLimit X.admits]; omega
  have hh1 : ¬ n.toNatClampNeg * componentBytes (.array .int) > e.platform.maxHeapBytes := by
    rw [Launch.admits_maxHeapBytes X.admits]; show ¬ n.toNatClampNeg * 4 > 536870912; omega
  have hl2 : ¬ k.toNatClampNeg > e.platform.arrayLengthLimit := by rw [Launch.admits_arrayLengthLimit X.admits]; omega
  have hh2 : ¬ k.toNatClampNeg * componentBytes .int > e.platform.maxHeapBytes := by
    rw [Launch.admits_maxHeapBytes X.admits]; show ¬ k.toNatClampNeg * 4 > 536870912; omega
  jvm_step X.here [hexec, hdg]
  have hm1 := State.method?_setTop (F0 m pc ls (.int k :: .int n :: rest)) X.here.top
  simp only [Op.multianewarray.sem, wp_bind', W.resolveClassAt_links (t := T.setTop (F0 m pc ls (.int k :: .int n :: rest))) (mm := m) hm1 hg₁]
  rw [W.popN, if_neg (by decide)]
  refine ⟨F0 m pc ls (.int k :: .int n :: rest), State.topJava?_setTop' (s := T.setVm vm₁) _ X.here.top, [.int n, .int k], rest, rfl, rfl, ?_⟩
  simp only [List.mapM_cons, List.mapM_nil, wp_bind', wp_pure']
  refine z_wpm2 (k := kA₁) (kc := kC₁) (cB := cB') (cc := cc) hkA₁ hkindA₁ hkC₁ hkindC₁ hn hk hl1 hh1 hl2 hh2 (by show T.heap.size + 1 + _ ≤ _; omega) (by show T.slotsUsed + _ + _ ≤ _; omega) (fun d' acts' => ?_)
  have eS : ((T.setTop (F0 m pc ls (.int k :: .int n :: rest))).setVm vm₁).setTop (F0 m pc ls rest) = (T.setVm vm₁).setTop (F0 m pc ls rest) := by
    show ((T.setVm vm₁).setTop _).setTop _ = _
    rw [State.setTop_setTop]
  rw [show ({ (F0 m pc ls (.int k :: .int n :: rest)) with stack := rest } : JFrame) = F0 m pc ls rest from rfl, eS, z_mst_top]
  simp only [wp_bind', W.mark, W.pushRef, State.topJava?_setTop' _ XF.here.top, Option.some.injEq, exists_eq_left', State.setTop_setTop, State.heap_setTop]
  intro acts
  simp [jvm, XF.here.top]
  exact a1
end MN2
end
section
/-! WHAT IS MADE: one new cell, or a row of rows -/
theorem z_inst (c : Nat) (hc : c < 8) : Cond.instantiable (z_cC c) (z_cN c) ∈ z_W ∧ Cond.initialized (z_cC c) ∈ z_W := by
  match c, hc with
  | 0, _ => exact ⟨z_wp_W (q := (1, 185)) (by decide +kernel) rfl, z_wp_W (q := (1, 8)) (by decide +kernel) rfl⟩
  | 1, _ => exact ⟨z_wp_W (q := (1, 38)) (by decide +kernel) rfl, z_wp_W (q := (1, 3)) (by decide +kernel) rfl⟩
  | 2, _ => exact ⟨z_wp_W (q := (1, 66)) (by decide +kernel) rfl, z_wp_W (q := (1, 4)) (by decide +kernel) rfl⟩
  | 3, _ => exact ⟨z_wp_W (q := (1, 96)) (by decide +kernel) rfl, z_wp_W (q := (1, 6)) (by decide +kernel) rfl⟩
  | 4, _ => exact ⟨z_wp_W (q := (1, 79)) (by decide +kernel) rfl, z_wp_W (q := (1, 5)) (by decide +kernel) rfl⟩
  | 5, _ => exact ⟨z_wp_W (q := (1, 124)) (by decide +kernel) rfl, z_wp_W (q := (1, 7)) (by decide +kernel) rfl⟩
  | 6, _ => exact ⟨z_wp_W (q := (1, 20)) (by decide +kernel) rfl, z_wp_W (q := (1, 2)) (by decide +kernel) rfl⟩
  | 7, _ => exact ⟨z_wp_W (q := (1, 12)) (by decide +kernel) rfl, z_wp_W (q := (1, 1)) (by decide +kernel) rfl⟩
theorem z_arI : Cond.arrayClass .int ∈ z_W := z_wp_W (q := (1, 36)) (by decide +kernel) rfl
theorem z_arJ : Cond.arrayClass .long ∈ z_W := z_wp_W (q := (2, 51)) (by decide +kernel) rfl
theorem z_arZ : Cond.arrayClass .boolean ∈ z_W := z_wp_W (q := (2, 52)) (by decide +kernel) rfl
theorem w_kd_le (a : Nat) : (w_kd a).2 ≤ 500 := by
  have key : (w_kdl.all fun q => Nat.ble q.2 500) = true := by decide +kernel
  unfold w_kd
  split
  · rename_i q hq
    exact Nat.le_of_ble_eq_true (List.all_eq_true.mp key q (List.mem_of_getElem? hq))
  · exact Nat.zero_le _
def z_dfv (z : Nat) : Value := match z with
  | 1 => .null
  | 2 => .long 0
  | _ => .int 0
theorem z_dflt {z : Nat} {ty : FieldType} (h : z_kty z ty = true) : defaultValue ty = z_dfv z := by
  match z, h with
  | 0, h =>
    have e : ty = .int := of_decide_eq_true h
    subst e
    rfl
  | 1, h => cases ty <;> first | rfl | cases h
  | 2, h =>
    have e : ty = .long := of_decide_eq_true h
    subst e
    rfl
  | 3, h =>
    have e : ty = .boolean := of_decide_eq_true h
    subst e
    rfl
  | _ + 4, h => cases h
theorem z_fv_nw {base b : Nat} {h : z_Hp} {k z : Nat} : z_fv base b (z_nw h) (h.1 + 2) k z = z_dfv z := by
  have e1 : z_I (z_nw h) (h.1 + 2) k = 0 := by show z_row h.2.1 (h.1 + 2) _ (h.1 + 2) k = _; rw [z_row_eq]
  have e2 : z_F (z_nw h) (h.1 + 2) k = 0 := by show z_row h.2.2.1 (h.1 + 2) _ (h.1 + 2) k = _; rw [z_row_eq]
  have e3 : z_J (z_nw h) (h.1 + 2) k = 0 := by show z_row h.2.2.2 (h.1 + 2) _ (h.1 + 2) k = _; rw [z_row_eq]
  match z with
  | 0 => exact congrArg Value.int e1
  | 1 => show va_rf (z_ro base b (z_F (z_nw h) (h.1 + 2) k)) = _; rw [e2]; rfl
  | 2 => exact congrArg Value.long e3
  | n + 3 => exact congrArg Value.int e1
section NW
variable {p : Program} {l : Launch} {e : Env} {R : Room} {s : State} {m : MethodId} {args : Array Value} {below : List Frame} {meth : Method} {c : Code} {Q : State → Prop} {D : va_G} {cy : Nat → ClassId} {base b n0 : Nat}
variable {pc : Nat} {ls : z_Ls} {t : List z_V} {h : z_Hp} {H H1 : Heap} {locs : List Loc} {mls : Array Slot} {cells slots : Nat}
theorem z_new1 (kk : z_at p l e R s m args below meth c Q D cy base b n0 pc ls (z_vr (h.1 + 2) :: t) (z_nw h)) (z1 : H1.size = H.size + 1) (hn : va_at D vwCl (base + h.1, z_cel cy base b (z_nw h) (h.1 + 2)) H1) (p1 : ∀ q : Nat, q < H.size → H1[q]? = H[q]?) {N : Nat} (hN : (w_kd (h.1 + 2)).2 = N)
    (a1 : H.size = base + h.1) (a2 : va_P D vwCl (z_wl cy base b h) H) (a3 : va_S (fun q => base ≤ q) s.heap H locs) (a4 : z_lv base b mls c.maxLocals ls) (a5 : n0 ≤ h.1) (a6 : cells = h.1 - n0) (a7 : slots = z_sz h.1 - z_sz n0) : W p l e R s m args below meth c H1 locs (cells + 1) (slots + N) Q (F0 m pc mls (.ref H.size :: t.map (z_tv base b))) := by
  have hz3 := z_sz_le a5
  have hz1 : z_sz (h.1 + 1) = z_sz h.1 + N := by
    show z_sz h.1 + (w_kd (h.1 + 2)).2 = _
    rw [hN]
  have h3 := kk H1 locs mls (cells + 1) (slots + N) (by rw [z1, a1]; rfl) (z_wnew a2 a1 (fun j hj => z_cel_cg (z_row_ne (by omega)) (z_row_ne (by omega)) (z_row_ne (by omega))) (fun j q1 q2 => ?_) p1) ⟨Nat.le_trans a3.1 (by omega), fun q hq hA => (p1 q (Nat.lt_of_lt_of_le hq a3.1)).trans (a3.2.1 q hq hA), a3.2.2⟩ a4 (Nat.le_succ_of_le a5) (by show _ = h.1 + 1 - n0; omega) (by show _ = z_sz (h.1 + 1) - z_sz n0; omega)
  · rw [List.map_cons, z_tv_ref, ← a1] at h3
    exact h3
  · have q2 : j < h.1 + 1 := q2
    have e : j = h.1 := by omega
    subst e
    exact hn
/-- a new array of numbers -/
theorem z_newN {t9 : Nat} (hkd : (w_kd (h.1 + 2)).1 = t9) {n : Nat} (hkn : (w_kd (h.1 + 2)).2 = n) {ty : FieldType} (ht : t9 = 10 ∧ ty = .int ∨ t9 = 11 ∧ ty = .long ∨ t9 = 13 ∧ ty = .boolean) (a1 : H.size = base + h.1) (e1 : H1[H.size]? = some (arrV (cy t9) n (fun _ => defaultValue ty))) : va_at D vwCl (base + h.1, z_cel cy base b (z_nw h) (h.1 + 2)) H1 := by
  refine z_arrTo hkd (by omega) ?_
  rw [← a1, e1, hkn]
  congr 1
  have e4 : (z_nw h).2.1 (h.1 + 2) = fun _ => 0 := z_row_eq
  have e5 : (z_nw h).2.2.2 (h.1 + 2) = fun _ => 0 := z_row_eq
  rcases ht with ⟨rfl, rfl⟩ | ⟨rfl, rfl⟩ | ⟨rfl, rfl⟩
  · show _ = vp_cell (cy 10) (n, .inl ((z_nw h).2.1 (h.1 + 2)))
    rw [e4]; rfl
  · show _ = vp_cell (cy 11) (n, .inr (.inl ((z_nw h).2.2.2 (h.1 + 2))))
    rw [e5]; rfl
  · show _ = vp_cell (cy 13) (n, .inl ((z_nw h).2.1 (h.1 + 2)))
    rw [e4]; rfl
theorem z_newA (X1 : z_KK D cy s) {at9 : ArrayType} {t9 : Nat} {ty : FieldType} (ht : t9 = 10 ∧ ty = .int ∨ t9 = 11 ∧ ty = .long ∨ t9 = 13 ∧ ty = .boolean) {cA : ClassId} (h1 : s.vm.findClass ("[" ++ ty.toString) = some cA) : cA = cy t9 := by
  rcases ht with ⟨rfl, rfl⟩ | ⟨rfl, rfl⟩ | ⟨rfl, rfl⟩
  · have := (X1.1.2 0 _ rfl).2
    exact Option.some.inj (h1.symm.trans this)
  · have := (X1.1.2 1 _ rfl).2
    exact Option.some.inj (h1.symm.trans this)
  · have := (X1.1.2 2 _ rfl).2
    exact Option.some.inj (h1.symm.trans this)
theorem z_sz_mul {n N K : Nat} : ∀ i, i ≤ N → (∀ j, j < N → (w_kd (n + 2 + j)).2 = K) → z_sz (n + i) = z_sz n + i * K
  | 0, _, _ => by simp
  | i + 1, hi, hk => by
    show z_sz (n + i) + (w_kd (n + i + 2)).2 = _
    rw [z_sz_mul i (by omega) hk, show n + i + 2 = n + 2 + i by omega, hk i (by omega), Nat.succ_mul]
    omega
theorem z_new2 (X1 : z_KK D cy s) {N K : Nat} (kk : z_at p l e R s m args below meth c Q D cy base b n0 pc ls (z_vr (h.1 + 2) :: t) (z_nwm h N)) (hk0 : (w_kd (h.1 + 2)).1 = 15) (hk1 : (w_kd (h.1 + 2)).2 = N) (hk2 : ∀ j, j < N → (w_kd (h.1 + 3 + j)).1 = 10 ∧ (w_kd (h.1 + 3 + j)).2 = K) {cA cB : ClassId} (hcA : s.vm.findClass "[[I" = some cA) (hcB : s.vm.findClass "[I" = some cB)
    (z1 : H1.size = H.size + 1 + N) (e1 : H1[H.size]? = some (arrV cA N (z_mrow H.size N))) (e2 : ∀ j, j < N → H1[H.size + 1 + j]? = some (arrV cB K (fun _ => .int 0))) (p1 : ∀ q : Nat, q < H.size → H1[q]? = H[q]?)
    (a1 : H.size = base + h.1) (a2 : va_P D vwCl (z_wl cy base b h) H) (a3 : va_S (fun q => base ≤ q) s.heap H locs) (a4 : z_lv base b mls c.maxLocals ls) (a5 : n0 ≤ h.1) (a6 : cells = h.1 - n0) (a7 : slots = z_sz h.1 - z_sz n0) : W p l e R s m args below meth c H1 (locs ++ (List.range N).map fun j => ⟨H.size, j⟩) (cells + 1 + N) (slots + N + N * K) Q (F0 m pc mls (.ref H.size :: t.map (z_tv base b))) := by
  have hz3 := z_sz_le a5
  have hz1 : z_sz (h.1 + 1 + N) = z_sz h.1 + N + N * K := by
    rw [z_sz_mul (n := h.1 + 1) (N := N) (K := K) N (Nat.le_refl _) (fun j hj => by rw [show h.1 + 1 + 2 + j = h.1 + 3 + j by omega]; exact (hk2 j hj).2)]
    show z_sz h.1 + (w_kd (h.1 + 2)).2 + _ = _
    rw [hk1]
  have f1 : cA = cy 15 := by
    have := (X1.1.2 4 _ rfl).2
    exact Option.some.inj (hcA.symm.trans this)
  have f2 : cB = cy 10 := by
    have := (X1.1.2 0 _ rfl).2
    exact Option.some.inj (hcB.symm.trans this)
  subst f1 f2
  have hb' : base ≤ H.size := by omega
  have h3 := kk H1 (locs ++ (List.range N).map fun j => ⟨H.size, j⟩) mls (cells + 1 + N) (slots + N + N * K) (by rw [z1, a1]; show _ = base + (h.1 + 1 + N); omega) (z_wnew a2 a1 (fun j hj => z_cel_cg (if_neg (by omega)) (z_row_ne (by omega)) rfl) (fun j q1 q2 => ?_) p1) ⟨Nat.le_trans a3.1 (by omega), fun q hq hA => (p1 q (Nat.lt_of_lt_of_le hq a3.1)).trans (a3.2.1 q hq hA), fun q hq => ?_⟩ a4 (by show n0 ≤ h.1 + 1 + N; omega) (by show _ = h.1 + 1 + N - n0; omega) (by show _ = z_sz (h.1 + 1 + N) - z_sz n0; omega)
  · rw [List.map_cons, z_tv_ref, ← a1] at h3
    exact h3
  · have q2 : j < h.1 + 1 + N := q2
    by_cases ej : j = h.1
    · subst ej
      refine z_arrTo hk0 (by omega) ?_
      rw [← a1, e1, hk1]
      show _ = some (arrV (cy 15) N (fun j => va_rf (z_ro base b ((z_nwm h N).2.2.1 (h.1 + 2) j))))
      have e4 : (z_nwm h N).2.2.1 (h.1 + 2) = fun i => if i < N then h.1 + 3 + i else 0 := z_row_eq
      rw [e4]
      congr 2
      funext i
      unfold z_mrow
      show _ = va_rf (z_ro base b (if i < N then h.1 + 3 + i else 0))
      by_cases hi : i < N
      · rw [if_pos hi, if_pos hi]
        have e5 : z_ro base b (h.1 + 3 + i) = some (base + (h.1 + 1 + i)) := by
          rw [show h.1 + 3 + i = (h.1 + 1 + i) + 2 by omega]
          exact z_ro_ref
        rw [e5, a1]
        exact congrArg Value.ref (show (base + h.1 + 1 + i : Nat) = base + (h.1 + 1 + i) by omega)
      · rw [if_neg hi, if_neg hi]
        rfl
    · obtain ⟨i, rfl⟩ : ∃ i, j = h.1 + 1 + i := ⟨j - h.1 - 1, by omega⟩
      have hi : i < N := by omega
      have e6 : h.1 + 1 + i + 2 = h.1 + 3 + i := by omega
      refine z_arrTo (t := 10) (by rw [e6]; exact (hk2 i hi).1) (by omega) ?_
      rw [show base + (h.1 + 1 + i) = H.size + 1 + i by omega, e2 i hi, e6, (hk2 i hi).2]
      show _ = some (vp_cell (cy 10) (K, .inl ((z_nwm h N).2.1 (h.1 + 3 + i))))
      have e4 : (z_nwm h N).2.1 (h.1 + 3 + i) = fun _ => 0 := if_pos ⟨by omega, by omega⟩
      rw [e4]
      rfl
  · rcases List.mem_append.mp hq with hq | hq
    · exact a3.2.2 q hq
    · obtain ⟨j, -, rfl⟩ := List.mem_map.mp hq
      exact hb'
end NW
end
section
theorem w_kd15 (a : Nat) (h : (w_kd a).1 = 15) : 0 < (w_kd a).2 := by
  have key : (w_kdl.all fun q => !(Nat.beq q.1 15) || Nat.blt 0 q.2) = true := by decide +kernel
  unfold w_kd at h ⊢
  split at h
  · rename_i q hq
    have := List.all_eq_true.mp key q (List.mem_of_getElem? hq)
    rw [h] at this
    simpa using this
  · cases h
section SN3
variable {p : Program} {l : Launch} {e : Env} {R : Room} {s : State} {m : MethodId} {args : Array Value} {below : List Frame} {meth : Method} {c : Code} {Q : State → Prop} {D : va_G} {cy : Nat → ClassId} {base b n0 : Nat} {sc : z_Sc} {M : Nat}
variable {pc len : Nat} {ls : z_Ls} {st : List z_V} {h : z_Hp} {ins : Jvm.ClassFile.Instr} {x y z : Nat} {K : z_K} {r : z_R}
theorem z_fv_sI {a y k z : Nat} {v : Int32} : z_fv base b (z_sI h a y v) a k z = (match z with
    | 1 => va_rf (z_ro base b (z_F h a k))
    | 2 => .long (z_J h a k)
    | _ => .int (if k = y then v else z_I h a k)) := by
  have e : z_I (z_sI h a y v) a k = if k = y then v else z_I h a k := by
    show z_row h.2.1 a (z_up (h.2.1 a) y v) a k = _
    rw [z_row_eq]
    rfl
  match z with
  | 0 => exact congrArg Value.int e
  | 1 => rfl
  | 2 => rfl
  | n + 3 => exact congrArg Value.int e
theorem z_fv_sF {a y k z : Nat} {v : Nat} : z_fv base b (z_sF h a y v) a k z = (match z with
    | 1 => va_rf (z_ro base b (if k = y then v else z_F h a k))
    | 2 => .long (z_J h a k)
    | _ => .int (z_I h a k)) := by
  have e : z_F (z_sF h a y v) a k = if k = y then v else z_F h a k := by
    show z_row h.2.2.1 a (z_up (h.2.2.1 a) y v) a k = _
    rw [z_row_eq]
    rfl
  match z with
  | 0 => rfl
  | 1 => exact congrArg (fun w => va_rf (z_ro base b w)) e
  | 2 => rfl
  | n + 3 => rfl
theorem z_fv_sJ {a y k z : Nat} {v : Int64} : z_fv base b (z_sJ h a y v) a k z = (match z with
    | 1 => va_rf (z_ro base b (z_F h a k))
    | 2 => .long (if k = y then v else z_J h a k)
    | _ => .int (z_I h a k)) := by
  have e : z_J (z_sJ h a y v) a k = if k = y then v else z_J h a k := by
    show z_row h.2.2.2 a (z_up (h.2.2.2 a) y v) a k = _
    rw [z_row_eq]
    rfl
  match z with
  | 0 => rfl
  | 1 => rfl
  | 2 => exact congrArg Value.long e
  | n + 3 => rfl
theorem z_vpin {i : Int32} {n : Nat} (h1 : ¬ i < 0) (h2 : i.toNatClampNeg < n) : vp_in i n := fun q => q.elim h1 (fun q => by omega)
/-- a row of ints (bytes, booleans) after a place was written -/
theorem z_ast_end {H : Heap} {locs : List Loc} {mls : Array Slot} {cells slots : Nat} {t : List z_V} (hX : z_Cx p s m args meth c D cy base b sc M) {k tg : Nat} {j : Nat} {v : Int32} (hi : k < h.1) (hkd : (w_kd (k + 2)).1 = tg) (ht : ¬ tg < 8) (ht11 : tg = 10 ∨ tg = 12 ∨ tg = 13)
    (kk : z_at p l e R s m args below meth c Q D cy base b n0 (pc + 1) ls t (z_sI h (k + 2) j v)) (a1 : H.size = base + h.1) (a2 : va_P D vwCl (z_wl cy base b h) H) (a3 : va_S (fun q => base ≤ q) s.heap H locs) (a4 : z_lv base b mls c.maxLocals ls) (a5 : n0 ≤ h.1) (a6 : cells = h.1 - n0) (a7 : slots = z_sz h.1 - z_sz n0) :
    ∀ H1 : Heap, H1[base + k]? = some ((vp_cell (cy tg) ((w_kd (k + 2)).2, .inl (h.2.1 (k + 2)))).setSlot j (.int v)) → H1.size = H.size → (∀ q, q ≠ base + k → H1[q]? = H[q]?) → W p l e R s m args below meth c H1 (locs ++ [⟨base + k, j⟩]) cells slots Q (F0 m (pc + 1) mls (t.map (z_tv base b))) := by
  intro H1 e1 e2 e3
  refine kk H1 _ mls cells slots (by rw [e2, a1]; rfl) (z_wput a2 rfl z_sI_cel ?_ e3) (a3.put e2 e3 (Nat.le_add_right _ _)) a4 a5 a6 a7
  refine z_arrTo hkd ht ?_
  have e4 : z_arr base b (z_sI h (k + 2) j v) (k + 2) tg (w_kd (k + 2)).2 = ((w_kd (k + 2)).2, .inl (z_up (h.2.1 (k + 2)) j v)) := by
    rcases ht11 with rfl | rfl | rfl <;> (show (_, Sum.inl ((z_sI h (k + 2) j v).2.1 (k + 2))) = _; show (_, Sum.inl (z_row h.2.1 (k + 2) _ (k + 2))) = _; rw [z_row_eq])
  rw [e4, e1, vp_cell_i, vp_cell_i, arrV_store]
  congr 2
  funext q
  unfold updV z_up
  split <;> rfl
theorem z_sn3 (X : z_Cx p s m args meth c D cy base b sc M) (hdg : decode (z_bM M) pc = .ok (ins, len)) (hok : z_sok M pc len 3 ins x y z = true) {q : Nat × Nat} (hw : z_wp q = z_wd (z_yM M).cls ins x y z) (hr : z_i3 sc K ins x y z pc ls st h = some r) (hK : ∀ pc' ls' st' h', K pc' ls' st' h' = some r → z_at p l e R s m args below meth c Q D cy base b n0 pc' ls' st' h')
    (hge : ∀ pc' ls' st' h', K pc' ls' st' h' = some r → h'.1 ≤ r.2.1) (hRc : r.2.1 - n0 ≤ R.cells) (hRs : z_sz r.2.1 - z_sz n0 ≤ R.slots) : z_at p l e R s m args below meth c Q D cy base b n0 pc ls st h := by
  have XX := X
  obtain ⟨hx, hb, hml, hown, hts, hKK, hin, hscr, hbs⟩ := X
  unfold z_i3 at hr
  split at hr
  · -- getfield
    rename_i n
    unfold z_sok at hok
    simp only [Bool.and_eq_true, Nat.blt_eq] at hok
    obtain ⟨⟨⟨⟨k1, -⟩, k3⟩, k4⟩, k5⟩ := hok
    have e := z_beq k1
    subst e
    have e := z_beq k5
    subst e
    obtain ⟨a, t, rfl, h2⟩ := z_pr_some.mp hr
    obtain ⟨g, h5⟩ := z_gd_some.mp h2
    obtain ⟨i, rfl, hi, hkd⟩ := z_ob_spec k3 g
    obtain ⟨o1, o2, o3, o4⟩ := z_cOK x k3
    intro H locs mls cells slots a1 a2 a3 a4 a5 a6 a7
    have h3 := hK _ _ _ _ h5 H locs mls cells slots a1 a2 a3 a4 a5 a6 a7
    rw [List.map_cons, z_tv_gv] at h3
    rw [List.map_cons, z_tv_ref]
    exact va_get (ws := z_wl cy base b h) (ci := x) hx hb hts o2 hown hKK.1 a2 i (by rw [z_wl_get hi, z_cel_ob hkd k3]) o1 y k4 (hts _ (z_wp_W hw rfl)) (fun w h9 => by rw [← z_cT1 x y k3 k4]; exact h9) (z_fs_at k4) hdg h3
  · -- putfield
    rename_i n
    have hok' := hok
    unfold z_sok at hok
    simp only [Bool.and_eq_true, Nat.blt_eq] at hok
    obtain ⟨⟨⟨⟨-, -⟩, k3⟩, k4⟩, k5⟩ := hok.1
    have e := z_beq k5
    have hty := z_cYk x y k3 k4
    rw [← e] at hty
    split at hr
    · obtain ⟨v, t, rfl, h2⟩ := z_pi_some.mp hr
      obtain ⟨a, t, rfl, h2⟩ := z_pr_some.mp h2
      obtain ⟨g, h5⟩ := z_gd_some.mp h2
      obtain ⟨i, rfl, hi, hkd⟩ := z_ob_spec k3 g
      have hty : z_cY x y = .int := of_decide_eq_true hty
      refine z_put XX hdg hok' hw (v := z_vi v) (h' := z_sI h (i + 2) y v) g rfl z_sI_cel (by rw [hty]; rfl) (by rw [hty]; rfl) (fun k hk => ?_) (hK _ _ _ _ h5)
      rw [z_fv_sI]
      by_cases ek : k = y
      · subst ek
        rw [← e, if_pos rfl, if_pos rfl]
        rfl
      · rw [if_neg ek, if_neg ek]
        rfl
    · obtain ⟨v, t, rfl, h2⟩ := z_pr_some.mp hr
      obtain ⟨a, t, rfl, h2⟩ := z_pr_some.mp h2
      obtain ⟨g, h5⟩ := z_gd_some.mp h2
      obtain ⟨i, rfl, hi, hkd⟩ := z_ob_spec k3 g
      have hf := z_ref_fits (base := base) (b := b) (a := v) hty
      refine z_put XX hdg hok' hw (v := z_vr v) (h' := z_sF h (i + 2) y v) g rfl z_sF_cel hf.1 hf.2 (fun k hk => ?_) (hK _ _ _ _ h5)
      rw [z_fv_sF]
      by_cases ek : k = y
      · subst ek
        rw [← e, if_pos rfl, if_pos rfl]
        rfl
      · rw [if_neg ek, if_neg ek]
        rfl
    · obtain ⟨v, t, rfl, h2⟩ := z_pl_some.mp hr
      obtain ⟨a, t, rfl, h2⟩ := z_pr_some.mp h2
      obtain ⟨g, h5⟩ := z_gd_some.mp h2
      obtain ⟨i, rfl, hi, hkd⟩ := z_ob_spec k3 g
      have hty : z_cY x y = .long := of_decide_eq_true hty
      refine z_put XX hdg hok' hw (v := z_vl v) (h' := z_sJ h (i + 2) y v) g rfl z_sJ_cel (by rw [hty]; rfl) (by rw [hty]; rfl) (fun k hk => ?_) (hK _ _ _ _ h5)
      rw [z_fv_sJ]
      by_cases ek : k = y
      · subst ek
        rw [← e, if_pos rfl, if_pos rfl]
        rfl
      · rw [if_neg ek, if_neg ek]
        rfl
    · rename_i z0 z1 z2
      obtain ⟨v, t, rfl, h2⟩ := z_pi_some.mp hr
      obtain ⟨a, t, rfl, h2⟩ := z_pr_some.mp h2
      obtain ⟨g, h5⟩ := z_gd_some.mp h2
      rw [Bool.and_eq_true] at g
      obtain ⟨g, gb⟩ := g
      obtain ⟨i, rfl, hi, hkd⟩ := z_ob_spec k3 g
      have hz : z = 3 := by
        match z, hty with
        | 0, _ => exact absurd rfl z0
        | 1, _ => exact absurd rfl z1
        | 2, _ => exact absurd rfl z2
        | 3, _ => rfl
        | n + 4, hty => cases hty
      subst hz
      have hty : z_cY x y = .boolean := of_decide_eq_true hty
      have hvb := z_bo_of gb
      refine z_put XX hdg hok' hw (v := z_vi v) (h' := z_sI h (i + 2) y v) g rfl z_sI_cel (by rw [hty]; show narrow .boolean (.int v) = .int v; rcases hvb with rfl | rfl <;> decide) (by rw [hty]; show fits .boolean (.int v) = true; rcases hvb with rfl | rfl <;> decide) (fun k hk => ?_) (hK _ _ _ _ h5)
      rw [z_fv_sI]
      by_cases ek : k = y
      · subst ek
        rw [← e, if_pos rfl, if_pos rfl]
        rfl
      · rw [if_neg ek, if_neg ek]
        rfl
  · -- iaload
    split at hr
    · unfold z_sok at hok
      simp only [Bool.and_eq_true] at hok
      obtain ⟨k1, -⟩ := hok
      have e := z_beq k1
      subst e
      obtain ⟨i, t, rfl, h2⟩ := z_pi_some.mp hr
      obtain ⟨a, t, rfl, h2⟩ := z_pr_some.mp h2
      obtain ⟨g, h5⟩ := z_gd_some.mp h2
      rw [Bool.and_eq_true] at g
      have ea := z_beq g.1
      subst ea
      obtain ⟨g1, g2⟩ := z_in_spec g.2
      obtain ⟨s1, s2, s3⟩ := hscr
      intro H locs mls cells slots a1 a2 a3 a4 a5 a6 a7
      exact va_sld hx hb s1 s2 (by show ¬ base ≤ b; omega) a3 (z_vpin g1 g2) hdg (hK _ _ _ _ h5 H locs mls cells slots a1 a2 a3 a4 a5 a6 a7)
    · have k1 : Nat.beq len 1 = true := by
        unfold z_sok at hok
        simp only [Bool.and_eq_true] at hok
        exact hok.1
      have e := z_beq k1
      subst e
      obtain ⟨i, t, rfl, h2⟩ := z_pi_some.mp hr
      obtain ⟨a, t, rfl, h2⟩ := z_pr_some.mp h2
      obtain ⟨g, h5⟩ := z_gd_some.mp h2
      obtain ⟨k, rfl, hi, hkd, g1, g2⟩ := z_ar_spec (by omega) g
      intro H locs mls cells slots a1 a2 a3 a4 a5 a6 a7
      rw [List.map_cons, List.map_cons, z_tv_ref]
      exact va_iald (ws := z_wl cy base b h) hx hb hKK.1 a2 k 0 (cA := cy 10) (n := (w_kd (k + 2)).2) (f := h.2.1 (k + 2)) (by rw [z_wl_get hi, z_cel_ar hkd (by omega)]; rfl) rfl (z_vpin g1 g2) hdg (hK _ _ _ _ h5 H locs mls cells slots a1 a2 a3 a4 a5 a6 a7)
  · -- baload
    unfold z_sok at hok
    simp only [Bool.and_eq_true] at hok
    obtain ⟨⟨k1, -⟩, k3⟩ := hok
    have e := z_beq k1
    subst e
    obtain ⟨i, t, rfl, h2⟩ := z_pi_some.mp hr
    obtain ⟨a, t, rfl, h2⟩ := z_pr_some.mp h2
    obtain ⟨g, h5⟩ := z_gd_some.mp h2
    have hx9 : x = 13 := z_beq k3
    subst hx9
    obtain ⟨k, rfl, hi, hkd, g1, g2⟩ := z_ar_spec (by omega) g
    intro H locs mls cells slots a1 a2 a3 a4 a5 a6 a7
    rw [List.map_cons, List.map_cons, z_tv_ref]
    exact va_zald (ws := z_wl cy base b h) hx hb hKK.1 a2 k 2 (cA := cy 13) (n := (w_kd (k + 2)).2) (f := h.2.1 (k + 2)) (by rw [z_wl_get hi, z_cel_ar hkd (by omega)]; rfl) rfl (z_vpin g1 g2) hdg (hK _ _ _ _ h5 H locs mls cells slots a1 a2 a3 a4 a5 a6 a7)
  · -- laload
    unfold z_sok at hok
    simp only [Bool.and_eq_true] at hok
    have e := z_beq hok.1
    subst e
    obtain ⟨i, t, rfl, h2⟩ := z_pi_some.mp hr
    obtain ⟨a, t, rfl, h2⟩ := z_pr_some.mp h2
    obtain ⟨g, h5⟩ := z_gd_some.mp h2
    obtain ⟨k, rfl, hi, hkd, g1, g2⟩ := z_ar_spec (by omega) g
    intro H locs mls cells slots a1 a2 a3 a4 a5 a6 a7
    rw [List.map_cons, List.map_cons, z_tv_ref]
    exact va_lald (ws := z_wl cy base b h) hx hb hKK.1 a2 k 1 (cA := cy 11) (n := (w_kd (k + 2)).2) (f := h.2.2.2 (k + 2)) (by rw [z_wl_get hi, z_cel_ar hkd (by omega)]; rfl) rfl (z_vpin g1 g2) hdg (hK _ _ _ _ h5 H locs mls cells slots a1 a2 a3 a4 a5 a6 a7)
  · -- aaload
    unfold z_sok at hok
    simp only [Bool.and_eq_true, Bool.or_eq_true] at hok
    obtain ⟨⟨k1, -⟩, k3⟩ := hok
    have e := z_beq k1
    subst e
    obtain ⟨i, t, rfl, h2⟩ := z_pi_some.mp hr
    obtain ⟨a, t, rfl, h2⟩ := z_pr_some.mp h2
    obtain ⟨g, h5⟩ := z_gd_some.mp h2
    have hx9 : x = 14 ∨ x = 15 := k3.imp z_beq z_beq
    obtain ⟨k, rfl, hi, hkd, g1, g2⟩ := z_ar_spec (by omega) g
    intro H locs mls cells slots a1 a2 a3 a4 a5 a6 a7
    rw [List.map_cons, List.map_cons, z_tv_ref]
    rcases hx9 with rfl | rfl
    · exact va_aldq (ws := z_wl cy base b h) hx hb hKK.1 a2 k 3 (cA := cy 14) (C := RX4) (n := (w_kd (k + 2)).2) (f := fun j => z_ro base b (h.2.2.1 (k + 2) j)) (by rw [z_wl_get hi, z_cel_ar hkd (by omega)]; rfl) rfl (z_vpin g1 g2) hdg (hK _ _ _ _ h5 H locs mls cells slots a1 a2 a3 a4 a5 a6 a7)
    · have hcl := z_arrAt a2 hi hkd (by omega)
      exact W.aald (v := va_rf (z_ro base b (h.2.2.1 (k + 2) i.toNatClampNeg))) (ty := .array .int) hx hb hcl ((hKK.1.2 4 _ rfl).1 (w_kd (k + 2)).2 (fun j => va_rf (z_ro base b (h.2.2.1 (k + 2) j)))) rfl (fun q => by cases q) (by show ¬ (i < 0 ∨ (arrV _ _ _).slots.size ≤ _); rw [arrV_size]; exact z_vpin g1 g2) (arrV_read (cy 15) (fun j => va_rf (z_ro base b (h.2.2.1 (k + 2) j))) g2) rfl rfl hdg (hK _ _ _ _ h5 H locs mls cells slots a1 a2 a3 a4 a5 a6 a7)
  · -- iastore
    unfold z_sok at hok
    simp only [Bool.and_eq_true] at hok
    have e := z_beq hok.1
    subst e
    obtain ⟨v, t, rfl, h2⟩ := z_pi_some.mp hr
    obtain ⟨i, t, rfl, h2⟩ := z_pi_some.mp h2
    obtain ⟨a, t, rfl, h2⟩ := z_pr_some.mp h2
    obtain ⟨g, h5⟩ := z_gd_some.mp h2
    obtain ⟨k, rfl, hi, hkd, g1, g2⟩ := z_ar_spec (by omega) g
    intro H locs mls cells slots a1 a2 a3 a4 a5 a6 a7
    rw [List.map_cons, List.map_cons, List.map_cons, z_tv_ref]
    have hcl := z_arrAt a2 hi hkd (by omega)
    exact W.iast hx hb hcl ((hKK.1.2 0 _ rfl).1 (w_kd (k + 2)).2 (fun j => .int (h.2.1 (k + 2) j))) (fun q => by cases q) (by show ¬ (i < 0 ∨ (arrV _ _ _).slots.size ≤ _); rw [arrV_size]; exact z_vpin g1 g2) rfl rfl hdg (z_ast_end XX hi hkd (by omega) (Or.inl rfl) (hK _ _ _ _ h5) a1 a2 a3 a4 a5 a6 a7)
  · -- bastore
    have k1 : Nat.beq len 1 = true := by
      unfold z_sok at hok
      simp only [Bool.and_eq_true] at hok
      exact hok.1.1
    have e := z_beq k1
    subst e
    have hx13 : x = 13 := by
      unfold z_sok at hok
      simp only [Bool.and_eq_true] at hok
      exact z_beq hok.2
    split at hr
    · exact absurd hx13 (by decide)
    · obtain ⟨v, t, rfl, h2⟩ := z_pi_some.mp hr
      obtain ⟨i, t, rfl, h2⟩ := z_pi_some.mp h2
      obtain ⟨a, t, rfl, h2⟩ := z_pr_some.mp h2
      obtain ⟨g, h5⟩ := z_gd_some.mp h2
      rw [Bool.and_eq_true] at g
      obtain ⟨g, gb⟩ := g
      obtain ⟨k, rfl, hi, hkd, g1, g2⟩ := z_ar_spec (by omega) g
      intro H locs mls cells slots a1 a2 a3 a4 a5 a6 a7
      rw [List.map_cons, List.map_cons, List.map_cons, z_tv_ref]
      have hcl := z_arrAt a2 hi hkd (by omega)
      have hnb : narrow .boolean (.int v) = .int v := by rcases z_bo_of gb with rfl | rfl <;> decide
      refine W.zast hx hb hcl ((hKK.1.2 2 _ rfl).1 (w_kd (k + 2)).2 (fun j => .int (h.2.1 (k + 2) j))) (fun q => by cases q) (by show ¬ (i < 0 ∨ (arrV _ _ _).slots.size ≤ _); rw [arrV_size]; exact z_vpin g1 g2) rfl rfl hdg ?_
      rw [hnb]
      exact z_ast_end XX hi hkd (by omega) (Or.inr (Or.inr rfl)) (hK _ _ _ _ h5) a1 a2 a3 a4 a5 a6 a7
  · -- lastore
    unfold z_sok at hok
    simp only [Bool.and_eq_true] at hok
    have e := z_beq hok.1
    subst e
    obtain ⟨v, t, rfl, h2⟩ := z_pl_some.mp hr
    obtain ⟨i, t, rfl, h2⟩ := z_pi_some.mp h2
    obtain ⟨a, t, rfl, h2⟩ := z_pr_some.mp h2
    obtain ⟨g, h5⟩ := z_gd_some.mp h2
    obtain ⟨k, rfl, hi, hkd, g1, g2⟩ := z_ar_spec (by omega) g
    intro H locs mls cells slots a1 a2 a3 a4 a5 a6 a7
    rw [List.map_cons, List.map_cons, List.map_cons, z_tv_ref]
    have hcl := z_arrAt a2 hi hkd (by omega)
    refine W.last hx hb hcl ((hKK.1.2 1 _ rfl).1 (w_kd (k + 2)).2 (fun j => .long (h.2.2.2 (k + 2) j))) (fun q => by cases q) (by show ¬ (i < 0 ∨ (arrV _ _ _).slots.size ≤ _); rw [arrV_size]; exact z_vpin g1 g2) rfl rfl hdg fun H1 e1 e2 e3 => ?_
    refine hK _ _ _ _ h5 H1 _ mls cells slots (by rw [e2, a1]; rfl) (z_wput a2 rfl z_sJ_cel ?_ e3) (a3.put e2 e3 (Nat.le_add_right _ _)) a4 a5 a6 a7
    refine z_arrTo hkd (by omega) ?_
    have e4 : z_arr base b (z_sJ h (k + 2) i.toNatClampNeg v) (k + 2) 11 (w_kd (k + 2)).2 = ((w_kd (k + 2)).2, .inr (.inl (z_up (h.2.2.2 (k + 2)) i.toNatClampNeg v))) := by
      show (_, Sum.inr (Sum.inl (z_row h.2.2.2 (k + 2) _ (k + 2)))) = _
      rw [z_row_eq]
    rw [e4, e1]
    show some ((vp_cell (cy 11) ((w_kd (k + 2)).2, .inr (.inl (h.2.2.2 (k + 2))))).setSlot _ _) = _
    rw [vp_cell_l, vp_cell_l, arrV_store]
    congr 2
    funext q
    unfold updV z_up
    split <;> rfl
  · -- aastore
    unfold z_sok at hok
    simp only [Bool.and_eq_true] at hok
    have e := z_beq hok.1
    subst e
    obtain ⟨v, t, rfl, h2⟩ := z_pr_some.mp hr
    obtain ⟨i, t, rfl, h2⟩ := z_pi_some.mp h2
    obtain ⟨a, t, rfl, h2⟩ := z_pr_some.mp h2
    obtain ⟨g, h5⟩ := z_gd_some.mp h2
    rw [Bool.and_eq_true] at g
    obtain ⟨g, gv⟩ := g
    obtain ⟨k, rfl, hi, hkd, g1, g2⟩ := z_ar_spec (by omega) g
    obtain ⟨w, rfl, hw9, hwk⟩ := z_ob_spec (by omega) gv
    intro H locs mls cells slots a1 a2 a3 a4 a5 a6 a7
    rw [List.map_cons, List.map_cons, List.map_cons, z_tv_ref, z_tv_ref]
    have hcl := z_arrAt a2 hi hkd (by omega)
    obtain ⟨cellV, v1, v2, v3, -⟩ := z_clsAt a2 hw9 hwk (by omega)
    have hcls := (hKK.1.1 4 _ rfl).2
    obtain ⟨kA, comp, f1, f2, f3, -⟩ := (hKK.1.2 3 _ rfl).2
    have hcomp : comp = D.1 4 := Option.some.inj (f3.symm.trans hcls.1)
    subst hcomp
    obtain ⟨kC, hkC, -⟩ := hcls.2
    refine W.aast hx hb hcl (fun q h => by cases h) (fun h => by cases h) f1 f2 rfl hkC ⟨g1, by show _ < (arrV _ _ _).slots.size; rw [arrV_size]; exact g2⟩ v1 (fun q h => by rw [v3] at h; cases h) (by rw [v2]; exact hkC) (by rw [v2]; exact va_assign hcls) rfl rfl hdg fun H1 e1 e2 e3 => ?_
    refine hK _ _ _ _ h5 H1 _ mls cells slots (by rw [e2, a1]; rfl) (z_wput a2 rfl z_sF_cel ?_ e3) (a3.put e2 e3 (Nat.le_add_right _ _)) a4 a5 a6 a7
    refine z_arrTo hkd (by omega) ?_
    have e4 : z_arr base b (z_sF h (k + 2) i.toNatClampNeg (w + 2)) (k + 2) 14 (w_kd (k + 2)).2 = ((w_kd (k + 2)).2, .inr (.inr (.inr (.inr (fun j => z_ro base b (z_up (h.2.2.1 (k + 2)) i.toNatClampNeg (w + 2) j)))))) := by
      show (_, Sum.inr (Sum.inr (Sum.inr (Sum.inr (fun j => z_ro base b (z_row h.2.2.1 (k + 2) _ (k + 2) j)))))) = _
      rw [z_row_eq]
    rw [e4, e1]
    show some ((vp_cell (cy 14) ((w_kd (k + 2)).2, .inr (.inr (.inr (.inr (fun j => z_ro base b (h.2.2.1 (k + 2) j))))))).setSlot _ _) = _
    rw [vp_cell_q, vp_cell_q, arrV_store]
    congr 2
    funext q
    unfold updV z_up
    split
    · rw [z_ro_ref]; rfl
    · rfl
  · -- arraylength
    split at hr
    · unfold z_sok at hok
      simp only [Bool.and_eq_true] at hok
      obtain ⟨⟨k1, -⟩, k3⟩ := hok
      have e := z_beq k1
      subst e
      obtain ⟨a, t, rfl, h2⟩ := z_pr_some.mp hr
      obtain ⟨g, h5⟩ := z_gd_some.mp h2
      have ea := z_beq g
      subst ea
      obtain ⟨s1, s2, s3⟩ := hscr
      intro H locs mls cells slots a1 a2 a3 a4 a5 a6 a7
      exact va_slen hx hb s1 s2 (by show ¬ base ≤ b; omega) a3 hdg (hK _ _ _ _ h5 H locs mls cells slots a1 a2 a3 a4 a5 a6 a7)
    · unfold z_sok at hok
      simp only [Bool.and_eq_true] at hok
      obtain ⟨⟨k1, -⟩, k3⟩ := hok
      have e := z_beq k1
      subst e
      split at k3
      · exact absurd rfl (by assumption)
      · obtain ⟨a, t, rfl, h2⟩ := z_pr_some.mp hr
        obtain ⟨g, h5⟩ := z_gd_some.mp h2
        simp only [Bool.and_eq_true, Nat.blt_eq] at g
        have g1 := z_beq g.1
        have := w_kd_small (a := a) (by omega)
        obtain ⟨k, rfl⟩ : ∃ k, a = k + 2 := ⟨a - 2, by omega⟩
        intro H locs mls cells slots a1 a2 a3 a4 a5 a6 a7
        rw [List.map_cons, z_tv_ref]
        exact va_alen (ws := z_wl cy base b h) hx hb hKK.1 a2 k 0 (cA := cy 10) (x := ((w_kd (k + 2)).2, .inl (h.2.1 (k + 2)))) (by rw [z_wl_get (by omega), z_cel_ar g1 (by omega)]; rfl) rfl rfl hdg (hK _ _ _ _ h5 H locs mls cells slots a1 a2 a3 a4 a5 a6 a7)
      · cases k3
  · -- new
    rename_i n
    unfold z_sok at hok
    simp only [Bool.and_eq_true, Nat.blt_eq] at hok
    obtain ⟨⟨k1, -⟩, k3⟩ := hok
    have e := z_beq k1
    subst e
    obtain ⟨g, h5⟩ := z_gd_some.mp hr
    have g := z_beq g
    have hg1 : h.1 + 1 ≤ r.2.1 := hge _ _ _ _ h5
    intro H locs mls cells slots a1 a2 a3 a4 a5 a6 a7
    obtain ⟨o1, o2, o3, o4⟩ := z_cOK x k3
    obtain ⟨i1, i2⟩ := z_inst x k3
    have hKn := hKK.1.1 x _ o1
    have hlen : (w_kd (h.1 + 2)).2 = z_cN x := by
      rw [w_kd_len (h.1 + 2) (by rw [g]; exact k3), g]
    have hz1 : z_sz (h.1 + 1) = z_sz h.1 + z_cN x := by
      show z_sz h.1 + (w_kd (h.1 + 2)).2 = _
      rw [hlen]
    have hz2 := z_sz_le hg1
    have hz3 := z_sz_le a5
    refine W.newcK hx hb hown (hts _ (z_wp_W hw rfl)) (hts _ i1) (hts _ i2) rfl hdg (by omega) (by omega) hKn.2.1 rfl fun H1 kC hkC e1 z1 p1 => ?_
    refine z_new1 (hK _ _ _ _ h5) z1 (z_clsTo g k3 ?_) p1 hlen a1 a2 a3 a4 a5 a6 a7
    rw [a1] at e1
    refine (u_born (z_cY x) hts o2 hKn hkC e1 o3).to fun k hk => ?_
    rw [z_fs_V hk, z_fv_nw]
    exact z_dflt (z_cYk x k k3 hk)
  · -- newarray
    rename_i at9
    obtain ⟨n, t, rfl, h2⟩ := z_pi_some.mp hr
    obtain ⟨g, h5⟩ := z_gd_some.mp h2
    simp only [Bool.and_eq_true] at g
    obtain ⟨g1, g2, g3⟩ := g
    have g1 := z_beq g1
    have g3 := z_beq g3
    have g2 : ¬ n < 0 := by simpa using g2
    have hg1 : h.1 + 1 ≤ r.2.1 := hge _ _ _ _ h5
    have hty : len = 2 ∧ ((x = 10 ∧ newarray.typeOf at9 = .int ∨ x = 11 ∧ newarray.typeOf at9 = .long ∨ x = 13 ∧ newarray.typeOf at9 = .boolean) ∧ Cond.arrayClass (newarray.typeOf at9) ∈ z_W) := by
      unfold z_sok at hok
      simp only [Bool.and_eq_true] at hok
      obtain ⟨⟨k1, -⟩, k3⟩ := hok
      refine ⟨z_beq k1, ?_⟩
      cases at9 <;> first | (cases k3; done) | skip
      all_goals first
        | exact ⟨Or.inl ⟨z_beq k3, rfl⟩, z_arI⟩
        | exact ⟨Or.inr (Or.inl ⟨z_beq k3, rfl⟩), z_arJ⟩
        | exact ⟨Or.inr (Or.inr ⟨z_beq k3, rfl⟩), z_arZ⟩
    obtain ⟨e, ht, hwa⟩ := hty
    subst e
    intro H locs mls cells slots a1 a2 a3 a4 a5 a6 a7
    have hz1 : z_sz (h.1 + 1) = z_sz h.1 + n.toNatClampNeg := by
      show z_sz h.1 + (w_kd (h.1 + 2)).2 = _
      rw [g3]
    have hz2 := z_sz_le hg1
    have hz3 := z_sz_le a5
    have hle := w_kd_le (h.1 + 2)
    have hcb : componentBytes (newarray.typeOf at9) ≤ 8 := by cases at9 <;> decide
    have hby : n.toNatClampNeg * componentBytes (newarray.typeOf at9) ≤ 536870912 := Nat.le_trans (Nat.mul_le_mul (show n.toNatClampNeg ≤ 500 by omega) hcb) (by decide)
    refine va_newaK hx hb (hts _ hwa) rfl hdg rfl g2 rfl hby (by omega) (by omega) rfl fun H1 cA e1 z1 p1 hAr hNm => ?_
    have hcA := z_newA (at9 := at9) hKK ht hNm
    subst hcA
    exact z_new1 (hK _ _ _ _ h5) z1 (z_newN g1 g3 ht a1 e1) p1 g3 a1 a2 a3 a4 a5 a6 a7
  · -- anewarray
    rename_i idx
    unfold z_sok at hok
    simp only [Bool.and_eq_true] at hok
    have e := z_beq hok.1
    subst e
    obtain ⟨n, t, rfl, h2⟩ := z_pi_some.mp hr
    obtain ⟨g, h5⟩ := z_gd_some.mp h2
    simp only [Bool.and_eq_true] at g
    obtain ⟨g1, g2, g3⟩ := g
    have g1 := z_beq g1
    have g3 := z_beq g3
    have g2 : ¬ n < 0 := by simpa using g2
    have hg1 : h.1 + 1 ≤ r.2.1 := hge _ _ _ _ h5
    intro H locs mls cells slots a1 a2 a3 a4 a5 a6 a7
    have hz1 : z_sz (h.1 + 1) = z_sz h.1 + n.toNatClampNeg := by
      show z_sz h.1 + (w_kd (h.1 + 2)).2 = _
      rw [g3]
    have hz2 := z_sz_le hg1
    have hz3 := z_sz_le a5
    have hle := w_kd_le (h.1 + 2)
    refine W.anew hx hb hown (hts _ (z_wp_W hw rfl)) (va_AO.use hKK.2.2.1) rfl hdg rfl g2 (by omega) (by omega) (by omega) fun cA kA comp f1 f2 f3 f4 => ?_
    obtain ⟨-, -, -, -, -, f5⟩ := (hKK.1.2 3 _ rfl).2
    have hcA : cA = cy 14 := Option.some.inj (f1.symm.trans f5)
    subst hcA
    refine z_new1 (hK _ _ _ _ h5) (by rw [Array.size_push]) (z_arrTo g1 (by omega) ?_) (fun q hq => by rw [Array.getElem?_push, if_neg (Nat.ne_of_lt hq)]) g3 a1 a2 a3 a4 a5 a6 a7
    rw [← a1, Array.getElem?_push_size, arrV_new, g3]
    show _ = some (arrV (cy 14) _ (fun j => va_rf (z_ro base b ((z_nw h).2.2.1 (h.1 + 2) j))))
    have e5 : (z_nw h).2.2.1 (h.1 + 2) = fun _ => 0 := z_row_eq
    rw [e5]
    rfl
  · -- multianewarray
    rename_i idx dd
    unfold z_sok at hok
    simp only [Bool.and_eq_true] at hok
    obtain ⟨⟨k1, -⟩, k3⟩ := hok
    have e := z_beq k1
    subst e
    have e := z_beq k3
    subst e
    obtain ⟨k, t, rfl, h2⟩ := z_pi_some.mp hr
    obtain ⟨n, t, rfl, h2⟩ := z_pi_some.mp h2
    obtain ⟨g, h5⟩ := z_gd_some.mp h2
    simp only [Bool.and_eq_true] at g
    obtain ⟨⟨g1, g2, g3⟩, g4, g5⟩ := g
    have g1 := z_beq g1
    have g3 := z_beq g3
    have g2 : ¬ n < 0 := by simpa using g2
    have g4 : ¬ k < 0 := by simpa using g4
    have g6 : ∀ j, j < n.toNatClampNeg → (w_kd (h.1 + 3 + j)).1 = 10 ∧ (w_kd (h.1 + 3 + j)).2 = k.toNatClampNeg := fun j hj => by
      have := List.all_eq_true.mp g5 j (List.mem_range.mpr hj)
      rw [Bool.and_eq_true] at this
      exact ⟨z_beq this.1, z_beq this.2⟩
    have hg1 : h.1 + 1 + n.toNatClampNeg ≤ r.2.1 := hge _ _ _ _ h5
    intro H locs mls cells slots a1 a2 a3 a4 a5 a6 a7
    have hz1 : z_sz (h.1 + 1 + n.toNatClampNeg) = z_sz h.1 + n.toNatClampNeg + n.toNatClampNeg * k.toNatClampNeg := by
      rw [z_sz_mul (n := h.1 + 1) (N := n.toNatClampNeg) (K := k.toNatClampNeg) n.toNatClampNeg (Nat.le_refl _) (fun j hj => by rw [show h.1 + 1 + 2 + j = h.1 + 3 + j by omega]; exact (g6 j hj).2)]
      show z_sz h.1 + (w_kd (h.1 + 2)).2 + _ = _
      rw [g3]
    have hz2 := z_sz_le hg1
    have hz3 := z_sz_le a5
    have hle := w_kd_le (h.1 + 2)
    have hn0 : 0 < n.toNatClampNeg := by
      have := w_kd15 _ g1
      omega
    have hkl : k.toNatClampNeg ≤ 500 := by
      have := w_kd_le (h.1 + 3 + 0)
      rw [(g6 0 hn0).2] at this
      exact this
    exact z_mnew hx hb hown (hts _ (z_wp_W hw rfl)) hKK.2.2.2 (hts _ z_arI) hdg g2 g4 (by omega) (by omega) (by omega) (by omega) fun H1 cA cB f1 f2 z1 e1 e2 p1 => z_new2 hKK (hK _ _ _ _ h5) g1 g3 g6 f1 f2 z1 e1 e2 p1 a1 a2 a3 a4 a5 a6 a7
  · cases hr
end SN3
end
section
/-! CALLS: group 4; a method's contract -/
def z_ws (M : Nat) : List Cond := .code (z_yM M) (z_bM M) (z_ml M) (z_rM M) :: z_W
def z_rm (d mc ms : Nat) : Room := { frames := d, cells := mc, slots := ms, locals := 64 * d }
def z_SX (base b : Nat) (sc : z_Sc) (U : State) : Prop := va_X b sc.1 sc.2 U U.heap ∧ b < U.heap.size ∧ b < base
def z_Bw (D : va_G) (cy : Nat → ClassId) (base b : Nat) (sc : z_Sc) (h : z_Hp) (U : State) : Prop := U.heap.size = base + h.1 ∧ va_P D vwCl (z_wl cy base b h) U.heap ∧ z_KK D cy U ∧ z_SX base b sc U
def z_Qc (D : va_G) (cy : Nat → ClassId) (base b : Nat) (sc : z_Sc) (M : Nat) (r : z_R) : Array Value → State → Outcome → State → Prop := match z_mr M with
  | 0 => va_Qi (fun (v : Int32) (_ : Unit) => r.1 = some (z_vi v)) (fun _ t => z_Bw D cy base b sc r.2 t) (fun q => base ≤ q)
  | 1 => va_Ql (fun (v : Int64) (_ : Unit) => r.1 = some (z_vl v)) (fun _ t => z_Bw D cy base b sc r.2 t) (fun q => base ≤ q)
  | _ => va_Qv (fun (_ : Unit) => r.1 = none) (fun _ t => z_Bw D cy base b sc r.2 t) (fun q => base ≤ q)
def z_Met (l : Launch) (D : va_G) (cy : Nat → ClassId) (base b : Nat) (sc : z_Sc) (d M : Nat) (as : List z_V) (h : z_Hp) (r : z_R) : Prop :=
  Met l (z_yM M) (z_ws M) (z_rm d (r.2.1 - h.1) (z_sz r.2.1 - z_sz h.1)) (va_Pc (as.map (z_tv base b)) (z_Bw D cy base b sc h)) (z_Qc D cy base b sc M r) (r.2.1 - h.1) (z_sz r.2.1 - z_sz h.1) (fun q => base ≤ q)
theorem z_AI_moved {u U : State} (hvm : u.vm.Alike U.vm) (h : z_AI u) : z_AI U := by
  obtain ⟨comp, c, k, h1, h2, h3, h4, h5⟩ := arrayOverA_spec h
  obtain ⟨k', hk', he⟩ := hvm.2.2 _ _ h3
  have hi : (U.vm.classes.findIdx? fun (x : Class) => match x.kind with | .array component _ => component == comp | _ => false) = some c := by
    rw [hvm.findIdx?_eq _ (fun _ => rfl)]
    exact h2
  have hkind : k'.kind = .array comp (.array .int) := by rw [he]; exact h4
  have f1 : U.vm.findClass (FieldType.array .int).toString = some comp := by rw [hvm.findClass]; exact h1
  have f2 : U.vm.findClass ("[" ++ (FieldType.array .int).toString) = some c := by rw [hvm.findClass]; exact h5
  unfold z_AI Cond.before Cond.holds
  simp only [Cond.value]
  rw [f1, Option.bind_some]
  refine (congrArg (fun o : Option Nat => (o.bind (fun c => (U.vm.classes[c]?).map fun (k : Class) => match k.kind with | .array _ ty => decide (ty = FieldType.array .int) && decide (U.vm.findClass ("[" ++ (FieldType.array .int).toString) = some c) | _ => false) == some true)) hi).trans ?_
  simp [hk', hkind, f2]
theorem z_KK_warm {D : va_G} {cy : Nat → ClassId} {s U : State} (hW : s.WarmedH U.vm) (h : z_KK D cy s) : z_KK D cy U := ⟨va_K.moved hW.alike h.1, fun q hq => va_Nw.warmM hW (h.2.1 q hq), h.2.2.1.moved hW.alike, z_AI_moved hW.alike h.2.2.2⟩
theorem z_KK_same {D : va_G} {cy : Nat → ClassId} {s U : State} (e : s.vm = U.vm) (h : z_KK D cy s) : z_KK D cy U := ⟨va_K.moved (by rw [e]; exact Vm.Alike.refl U.vm) h.1, fun q hq => va_Nw.same rfl e (h.2.1 q hq), h.2.2.1.moved (by rw [e]; exact Vm.Alike.refl U.vm), z_AI_moved (by rw [e]; exact Vm.Alike.refl U.vm) h.2.2.2⟩
theorem z_SX_same {base b : Nat} {sc : z_Sc} {s U : State} (e : s.vm = U.vm) (eh : s.heap = U.heap) (h : z_SX base b sc s) : z_SX base b sc U := ⟨by rw [← eh]; exact va_X.moved (by rw [e]; exact Vm.Alike.refl U.vm) h.1, by rw [← eh]; exact h.2.1, h.2.2⟩
/-- the script stays, where only what is from base on is written -/
theorem z_SX_to {base b : Nat} {sc : z_Sc} {s U : State} {H : Heap} {locs : List Loc} (hW : s.WarmedH U.vm) (h : z_SX base b sc s) (hS : va_S (fun q => base ≤ q) s.heap H locs) (hU : U.heap = H) : z_SX base b sc U := by
  obtain ⟨h1, h2, h3⟩ := h
  have hk : H[b]? = s.heap[b]? := hS.2.1 b h2 (by show ¬ base ≤ b; omega)
  have hz : s.heap.size ≤ H.size := hS.1
  exact ⟨by rw [hU]; exact va_X.moved hW.alike (h1.kept hk), by rw [hU]; omega, h3⟩
theorem z_blind {D : va_G} {cy : Nat → ClassId} {base b : Nat} {sc : z_Sc} {h : z_Hp} {av : List Value} : FrameBlind (va_Pc av (z_Bw D cy base b sc h)) := fun a U g mk q => by
  obtain ⟨q0, q1, q2, q3, q4⟩ := q
  exact ⟨q0, q1, q2, z_KK_same (s := U) (U := U.calling g mk a) rfl q3, z_SX_same (s := U) (U := U.calling g mk a) rfl rfl q4⟩
theorem z_code_in {x : Nat} (h : z_mcw x) : Cond.code (z_yM x) (z_bM x) (z_ml x) (z_rM x) ∈ z_W := z_wp_W h rfl
theorem z_good {x : Nat} (h : z_mcw x) : GoodIn z_W (z_ws x) := fun w hw => by
  have h1 : w ∈ z_W := by
    rcases List.mem_cons.mp hw with rfl | h2
    · exact z_code_in h
    · exact h2
  exact ⟨h1, good_of_word (List.mem_filter.mp h1).2⟩
theorem z_g4 {M pc len : Nat} {ins : Jvm.ClassFile.Instr} {x y z : Nat} (hok : z_sok M pc len 4 ins x y z = true) : (∃ n, ins = .invokevirtual n) ∨ (∃ n, ins = .invokestatic n) ∨ (∃ n, ins = .invokespecial n) := by
  unfold z_sok at hok
  split at hok
  all_goals first
    | exact Or.inl ⟨_, rfl⟩
    | exact Or.inr (Or.inl ⟨_, rfl⟩)
    | exact Or.inr (Or.inr ⟨_, rfl⟩)
    | (exfalso; simp at hok; done)
theorem z_mckV {x : Nat} (hx : z_lk x = true) (hk : z_kM x = 0) : Cond.instanceMethod (z_yM x) ∈ z_W ∧ Cond.selects (z_yM x).cls (z_yM x) (z_yM x) ∈ z_W ∧ Cond.initialized (z_yM x).cls ∈ z_W ∧ ((z_yM x).cls ≠ "java/lang/invoke/MethodHandle" ∧ (z_yM x).cls ≠ "java/lang/invoke/VarHandle" ∧ (parseMethodDescriptor (z_yM x).desc).map (fun d => d.parameters.length) = some (z_mn x - 1)) ∧ z_ml x ≤ 45 ∧ z_cC (z_mc x) = (z_yM x).cls ∧ z_mc x < 8 ∧ 0 < z_mn x := by
  have h := z_mckA x hx
  unfold z_mck at h
  rw [hk] at h
  simp only [Bool.and_eq_true, decide_eq_true_eq, Nat.blt_eq] at h
  obtain ⟨h1, h2, h3, h4, h5, h6, h7, h8, h9, ⟨h10, h11⟩, h12⟩ := h
  exact ⟨z_wp_W h1 rfl, z_wp_W h2 rfl, z_wp_W h3 rfl, ⟨h5, h6, h4⟩, Nat.le_of_ble_eq_true h8, h10, h11, h12⟩
theorem z_mckS {x : Nat} (hx : z_lk x = true) (hk : z_kM x = 1) : Cond.static (z_yM x) ∈ z_W ∧ Cond.initialized (z_yM x).cls ∈ z_W ∧ ((z_yM x).cls ≠ "java/lang/invoke/MethodHandle" ∧ (z_yM x).cls ≠ "java/lang/invoke/VarHandle" ∧ (parseMethodDescriptor (z_yM x).desc).map (fun d => d.parameters.length) = some (z_mn x)) ∧ z_ml x ≤ 45 := by
  have h := z_mckA x hx
  unfold z_mck at h
  rw [hk] at h
  simp only [Bool.and_eq_true, decide_eq_true_eq] at h
  obtain ⟨h1, -, h3, h4, h5, h6, h7, h8, h9, -⟩ := h
  exact ⟨z_wp_W h1 rfl, z_wp_W h3 rfl, ⟨h5, h6, h4⟩, Nat.le_of_ble_eq_true h8⟩
theorem z_mckI {x : Nat} (hx : z_lk x = true) (hk : z_kM x = 2) : Cond.instanceMethod (z_yM x) ∈ z_W ∧ (z_yM x).name = "<init>" ∧ z_rM x = none ∧ Cond.initialized (z_yM x).cls ∈ z_W ∧ ((z_yM x).cls ≠ "java/lang/invoke/MethodHandle" ∧ (z_yM x).cls ≠ "java/lang/invoke/VarHandle" ∧ (parseMethodDescriptor (z_yM x).desc).map (fun d => d.parameters.length) = some (z_mn x - 1)) ∧ z_ml x ≤ 45 ∧ 0 < z_mn x := by
  have h := z_mckA x hx
  unfold z_mck at h
  rw [hk] at h
  simp only [Bool.and_eq_true, decide_eq_true_eq, Nat.blt_eq] at h
  obtain ⟨h1, ⟨h2, h2b⟩, h3, h4, h5, h6, h7, h8, h9, -, h12⟩ := h
  exact ⟨z_wp_W h1 rfl, h2, h2b, z_wp_W h3 rfl, ⟨h5, h6, h4⟩, Nat.le_of_ble_eq_true h8, h12⟩
theorem z_nests : (lw_tbl.all fun w => match w with
    | .methodLinkNest a i y h => z_nst.any (fun q => decide (a = RX7 ∧ i = q.1 ∧ y = q.2 ∧ h = z_host))
    | _ => true) = true := by decide +kernel
theorem z_nest_in {q : Nat × Nat} {own : String} {n : Nat} {y : MethodName} (h : z_wp q = some (.methodLinkNest own n y z_host)) : ∃ k ∈ z_nst, own = RX7 ∧ n = k.1 ∧ y = k.2 := by
  have h1 := List.all_eq_true.mp z_nests _ (z_wp_in h)
  obtain ⟨k, hk, h2⟩ := List.any_eq_true.mp h1
  have h2 := of_decide_eq_true h2
  exact ⟨k, hk, h2.1, h2.2.1, h2.2.2.1⟩
theorem z_rt_none {q : Nat} {K : z_K} {pc : Nat} {ls : z_Ls} {st : List z_V} : z_rt q none K pc ls st = none := by
  unfold z_rt
  split <;> rfl
theorem z_rt_ge {q : Nat} {K : z_K} {pc : Nat} {ls : z_Ls} {st : List z_V} {r1 r : z_R} (hK : ∀ pc' ls' st' h', K pc' ls' st' h' = some r → h'.1 ≤ r.2.1) (h : z_rt q (some r1) K pc ls st = some r) : r1.2.1 ≤ r.2.1 := by
  obtain ⟨v, h1⟩ := r1
  unfold z_rt z_ci z_cl z_cv at h
  split at h <;> split at h <;> first | exact hK _ _ _ _ h | cases h | skip
  all_goals (rename_i he; cases he; exact hK _ _ _ _ h)
section SN4
variable {p : Program} {l : Launch} {e : Env} {R : Room} {s : State} {m : MethodId} {args : Array Value} {below : List Frame} {meth : Method} {c : Code} {Q : State → Prop} {D : va_G} {cy : Nat → ClassId} {base b n0 : Nat} {sc : z_Sc} {M : Nat}
variable {pc len : Nat} {ls : z_Ls} {st : List z_V} {h : z_Hp} {ins : Jvm.ClassFile.Instr} {x y z : Nat} {K : z_K} {r : z_R} {C9 : z_C} {d : Nat}
variable {H : Heap} {locs : List Loc} {mls : Array Slot} {cells slots : Nat}
/-- behind a call -/
theorem z_fin {r1 : z_R} {a : Array Value} {st0 : List Value} {rest : List z_V} (hrun : va_Run p l e R s m args below meth c H locs cells slots (r1.2.1 - h.1) (z_sz r1.2.1 - z_sz h.1) (F0 m pc mls st0) (rest.map (z_tv base b)) (z_Qc D cy base b sc x r1 a) (fun q => base ≤ q)) (hrt : z_rt (z_mr x) (some r1) K pc ls rest = some r)
    (hK : ∀ pc' ls' st' h', K pc' ls' st' h' = some r → z_at p l e R s m args below meth c Q D cy base b n0 pc' ls' st' h') (hg1 : h.1 ≤ r1.2.1) (a3 : va_S (fun q => base ≤ q) s.heap H locs) (a4 : z_lv base b mls c.maxLocals ls) (a5 : n0 ≤ h.1) (a6 : cells = h.1 - n0) (a7 : slots = z_sz h.1 - z_sz n0) : W p l e R s m args below meth c H locs cells slots Q (F0 m pc mls st0) := by
  obtain ⟨v1, h1⟩ := r1
  have hg1 : h.1 ≤ h1.1 := hg1
  have hz1 := z_sz_le hg1
  have hz2 := z_sz_le a5
  have fin : ∀ (st' : List z_V) (H1 : Heap) (locs1 : List Loc) (t : State), K (pc + 3) ls st' h1 = some r → t.heap = H1 → z_Bw D cy base b sc h1 t → va_S (fun q => base ≤ q) s.heap H1 locs1 → W p l e R s m args below meth c H1 locs1 (cells + (h1.1 - h.1)) (slots + (z_sz h1.1 - z_sz h.1)) Q (F0 m (pc + 3) mls (st'.map (z_tv base b))) := by
    intro st' H1 locs1 t hk ht hB hS1
    subst ht
    exact hK _ _ _ _ hk t.heap locs1 mls _ _ hB.1 hB.2.1 hS1 a4 (by omega) (by omega) (by omega)
  unfold z_Qc at hrun
  unfold z_rt at hrt
  rcases hq : z_mr x with _ | _ | n
  · rw [hq] at hrt hrun
    rcases v1 with _ | v | w | v
    · cases (show (none : z_O) = some r from hrt)
    · have hrt : K (pc + 3) ls (z_vi v :: rest) h1 = some r := hrt
      refine va_calli hrun a3 (fun q _ h => h) (fun q h => h) (fun v' u t H1 locs1 ht hvm hp hB hz hk hS1 => ?_)
      have e : v = v' := by cases hp; rfl
      subst e
      exact fin (z_vi v :: rest) H1 locs1 t hrt ht hB hS1
    · cases (show (none : z_O) = some r from hrt)
    · cases (show (none : z_O) = some r from hrt)
  · rw [hq] at hrt hrun
    rcases v1 with _ | v | w | v
    · cases (show (none : z_O) = some r from hrt)
    · cases (show (none : z_O) = some r from hrt)
    · cases (show (none : z_O) = some r from hrt)
    · have hrt : K (pc + 3) ls (z_vl v :: rest) h1 = some r := hrt
      refine va_calll hrun a3 (fun q _ h => h) (fun q h => h) (fun v' u t H1 locs1 ht hvm hp hB hz hk hS1 => ?_)
      have e : v = v' := by cases hp; rfl
      subst e
      exact fin (z_vl v :: rest) H1 locs1 t hrt ht hB hS1
  · rw [hq] at hrt hrun
    rcases v1 with _ | v | w | v
    · have hrt : K (pc + 3) ls rest h1 = some r := hrt
      exact va_callv hrun a3 (fun q _ h => h) (fun q h => h) (fun u t H1 locs1 ht hvm hp hB hz hk hS1 => fin rest H1 locs1 t hrt ht hB hS1)
    · cases (show (none : z_O) = some r from hrt)
    · cases (show (none : z_O) = some r from hrt)
    · cases (show (none : z_O) = some r from hrt)
/-- places of a row come to another one's -/
theorem z_acopy {cc : ByteArray} (hexec : p.tables.exec = Jvm.exec) (hb : c.code = cc) (hml : c.maxLocals = mls.size) {own : String} {index : Nat} (hown : s.vm.findClass own = some m.cls) (hlink : (Cond.methodLink own index arraycopyName).before args s = true) (hnat : (Cond.native arraycopyName).before args s = true) (hstat : (Cond.static arraycopyName).before args s = true) (hini : (Cond.initialized "java/lang/System").before args s = true)
    {a0 a1 : Nat} {cA : ClassId} {m0 m1 : Nat} {f g : Nat → Int32} (hcA : ArrOfT s cA .int) (hc0 : H[a0]? = some (vp_cell cA (m0, .inl f))) (hc1 : H[a1]? = some (vp_cell cA (m1, .inl g))) {sp dp n : Int32} (h1 : ¬ sp < 0) (h2 : ¬ dp < 0) (h3 : ¬ n < 0) (h4 : sp.toNatClampNeg + n.toNatClampNeg ≤ m0) (h5 : dp.toNatClampNeg + n.toNatClampNeg ≤ m1)
    (hframes : 1 ≤ R.frames) {rest : List Value} (hlocals : (rest.map fun v => v.category).sum + (nativeFrameWords "java/lang/System" "arraycopy" 5 + 11) ≤ R.locals) (hdg : decode cc pc = .ok (.invokestatic index, 3))
    (kk : ∀ (H1 : Heap) (L : List Loc), H1.size = H.size → H1[a1]? = some (vp_cell cA (m1, .inl (z_cp f g sp.toNatClampNeg dp.toNatClampNeg n.toNatClampNeg))) → (∀ q : Nat, q ≠ a1 → H1[q]? = H[q]?) → (∀ q ∈ L, q.base = a1) → W p l e R s m args below meth c H1 (locs ++ L) cells slots Q (F0 m (pc + 3) mls rest)) : W p l e R s m args below meth c H locs cells slots Q (F0 m pc mls (.int n :: .int dp :: .ref a1 :: .int sp :: .ref a0 :: rest)) := by
  have nn : ∀ z : Int32, ¬ z < 0 → z.toInt = (z.toNatClampNeg : Int) := by
    intro z hz
    have hz0 : (0 : Int) ≤ z.toInt := by
      have := Int32.not_lt.mp hz
      simpa using Int32.le_iff_toInt_le.mp this
    show z.toInt = ((z.toInt.toNat : Nat) : Int)
    omega
  intro T hT X
  obtain ⟨-, k0, hk0, cm0, hkk0⟩ := hcA m0 (fun j => .int (f j))
  obtain ⟨-, k1, hk1, cm1, hkk1⟩ := hcA m1 (fun j => .int (g j))
  obtain ⟨vm', X', step⟩ := X.arraycopy hexec hown hlink hnat hstat hini (src := a0) (dst := a1) (cs := vp_cell cA (m0, .inl f)) (cd := vp_cell cA (m1, .inl g)) (srcPos := sp) (destPos := dp) (n := n) (by rw [hT]; exact hc0) (by rw [hT]; exact hc1)
    (fun _ h => by cases h) (fun _ h => by cases h) (fun h => by cases h) (fun h => by cases h) hk0 hk1 hkk0 hkk1 (by simp [refKind]) h1 h2 h3
    (by rw [nn sp h1, nn n h3]; show ¬ _ > ((arrV cA m0 (fun j => .int (f j))).slots.size : Int); rw [arrV_size]; omega)
    (by rw [nn dp h2, nn n h3]; show ¬ _ > ((arrV cA m1 (fun j => .int (g j))).slots.size : Int); rw [arrV_size]; omega)
    (fun vm₁ _ i hi => by
      have e : (vp_cell cA (m0, .inl f)).slots.getD (sp.toNatClampNeg + i) .null = .int (f (sp.toNatClampNeg + i)) := by
        show (arrV cA m0 (fun j => .int (f j))).slots.getD _ _ = _
        rw [Array.getD_eq_getD_getElem?, arrV_read _ _ (by omega)]
        rfl
      refine ⟨?_, ?_⟩
      · rw [e]
        rfl
      · rw [e]
        exact trivial)
    (g := F0 m pc mls (.int n :: .int dp :: .ref a1 :: .int sp :: .ref a0 :: rest)) rfl (by rw [hml]) (rest := rest) rfl (by rw [hb]; exact hdg) hframes (by show 2 * 0 + _ + _ ≤ _; omega)
  have e1 : copied (vp_cell cA (m0, .inl f)) (vp_cell cA (m1, .inl g)) sp dp n = vp_cell cA (m1, .inl (z_cp f g sp.toNatClampNeg dp.toNatClampNeg n.toNatClampNeg)) := va_copied (fun z => .int z) cA cA f g h4
  rw [e1] at X' step
  have hl : a1 < H.size := (Array.getElem?_eq_some_iff.mp hc1).1
  obtain ⟨t, q1, q2⟩ := kk ((T.setVm vm').setCell a1 (vp_cell cA (m1, .inl (z_cp f g sp.toNatClampNeg dp.toNatClampNeg n.toNatClampNeg)))).heap _ (by rw [size_setCell, ← hT]; rfl) (heapAt_setCell_self _ (by rw [← hT] at hl; exact hl)) (fun q hq => by rw [heapAt_setCell_ne _ (Ne.symm hq), ← hT]; rfl) (fun q hq => by
    obtain ⟨z, -, hz⟩ := List.mem_map.mp hq
    rw [← hz]) _ rfl X'
  exact ⟨t, step t q1, q2⟩
theorem z_cpI_cel {i j : Nat} (hj : j ≠ i) {a sp dp n : Nat} : z_cel cy base b (z_cpI h a sp (i + 2) dp n) (j + 2) = z_cel cy base b h (j + 2) := z_cel_cg (z_row_ne (by omega)) rfl rfl
end SN4
end
section
/-! CALLS as the machine does them -/
theorem z_gt_mem : ∀ {L : z_Pg} {pc : Nat} {en : z_En}, z_gt L pc = some en → ∃ len, (pc, len, en) ∈ L
  | [], _, _, h => by cases h
  | q :: r, pc, en, h => by
    unfold z_gt at h
    split at h
    · rename_i e
      have e := z_beq e
      cases h
      exact ⟨q.2.1, by rw [← e]; exact List.mem_cons_self⟩
    · obtain ⟨len, h2⟩ := z_gt_mem h
      exact ⟨len, List.mem_cons_of_mem _ h2⟩
theorem z_g_le {M pc len g : Nat} {ins : Jvm.ClassFile.Instr} {x y z : Nat} (hok : z_sok M pc len g ins x y z = true) : g ≤ 4 := by
  unfold z_sok at hok
  split at hok
  all_goals first
    | (simp only [Bool.and_eq_true] at hok; first | (have := z_beq hok.1.1.1.1.1; omega) | (have := z_beq hok.2; omega) | (have := z_beq hok.1.2; omega) | (have := z_beq hok.1.1.2; omega) | (have := z_beq hok.1.1.1.2; omega) | (have := z_beq hok.1.1.1.1.2; omega) | (have := z_beq hok.1; omega) | (have := z_beq hok.1.1; omega) | (have := z_beq hok.1.1.1; omega) | (have := z_beq hok.1.1.1.1; omega) | (have := z_beq hok.1.1.1.1.1.2; omega))
    | (cases hok; done)
theorem z_rcs {h : z_Hp} {as0 : List z_V} {c q pc : Nat} {o : z_O} {K : z_K} {ls : z_Ls} {rest : List z_V} {r : z_R} (hr : z_rc h as0 c (z_rt q o K pc ls rest) = some r) : ∃ a as r1, as0 = z_vr a :: as ∧ z_ob h a c = true ∧ o = some r1 ∧ z_rt q (some r1) K pc ls rest = some r := by
  unfold z_rc at hr
  split at hr
  · rename_i a as
    obtain ⟨g, hr⟩ := z_gd_some.mp hr
    rcases o with _ | r1
    · rw [z_rt_none] at hr
      cases hr
    · exact ⟨a, as, r1, rfl, g, rfl, hr⟩
  · cases hr
theorem z_stk {st as0 rest : List z_V} {n : Nat} (h1 : (st.take n).reverse = as0) (h2 : st.drop n = rest) (hn : n ≤ st.length) : st = as0.reverse ++ rest ∧ as0.length = n := by
  subst h1 h2
  constructor
  · rw [List.reverse_reverse, List.take_append_drop]
  · rw [List.length_reverse, List.length_take]
    omega
theorem z_mc_lt {x : Nat} (hx : z_lk x = true) (hk : z_kM x = 2) : z_mc x < 8 := by
  have h := z_mckA x hx
  unfold z_mck at h
  rw [hk] at h
  simp only [Bool.and_eq_true, decide_eq_true_eq, Nat.blt_eq] at h
  obtain ⟨-, -, -, -, -, -, -, -, -, ⟨-, h11⟩, -⟩ := h
  exact h11
section SN5
variable {p : Program} {l : Launch} {e : Env} {R : Room} {s : State} {m : MethodId} {args : Array Value} {below : List Frame} {meth : Method} {c : Code} {Q : State → Prop} {D : va_G} {cy : Nat → ClassId} {base b n0 : Nat} {sc : z_Sc} {M : Nat}
variable {pc len : Nat} {ls : z_Ls} {st : List z_V} {h : z_Hp} {ins : Jvm.ClassFile.Instr} {x y z : Nat} {K : z_K} {r : z_R} {C9 : z_C} {d : Nat}
theorem z_sn4 (X : z_Cx p s m args meth c D cy base b sc M) (hdg : decode (z_bM M) pc = .ok (ins, len)) (hok : z_sok M pc len 4 ins x y z = true) {q : Nat × Nat} (hw : z_wp q = z_wd (z_yM M).cls ins x y z) (hr : z_i4 C9 K x y z pc ls st h = some r) (hK : ∀ pc' ls' st' h', K pc' ls' st' h' = some r → z_at p l e R s m args below meth c Q D cy base b n0 pc' ls' st' h')
    (hC : ∀ x as h0 r0, z_lk x = true → C9 x as h0 = some r0 → z_Met l D cy base b sc d x as h0 r0) (hCge : ∀ x as h0 r0, C9 x as h0 = some r0 → h0.1 ≤ r0.2.1) (hge : ∀ pc' ls' st' h', K pc' ls' st' h' = some r → h'.1 ≤ r.2.1) (hRc : r.2.1 - n0 ≤ R.cells) (hRs : z_sz r.2.1 - z_sz n0 ≤ R.slots) (hRf : d + 1 ≤ R.frames) (hRl : 64 * (d + 1) ≤ R.locals) : z_at p l e R s m args below meth c Q D cy base b n0 pc ls st h := by
  obtain ⟨hx, hb, hml, hown, hts, hKK, hin, hscr, hbs⟩ := X
  rcases z_g4 hok with ⟨n, rfl⟩ | ⟨n, rfl⟩ | ⟨n, rfl⟩
  · -- invokevirtual
    unfold z_sok at hok
    simp only [Bool.and_eq_true, Nat.blt_eq] at hok
    obtain ⟨⟨⟨⟨⟨k1, -⟩, k3⟩, k4⟩, k5⟩, k6⟩ := hok
    have e := z_beq k1
    subst e
    have e := z_beq k3
    subst e
    have k4 := z_beq k4
    have e := z_beq k5
    subst e
    obtain ⟨w1, w2, w3, w4, w5, w6, w7, w8⟩ := z_mckV k6 k4
    have hr : z_sg (Nat.ble (z_mn x) st.length && Nat.ble (z_cats (st.drop (z_mn x))) 8) (z_rc h (st.take (z_mn x)).reverse (z_mc x) (z_rt (z_mr x) (C9 x (st.take (z_mn x)).reverse h) K pc ls (st.drop (z_mn x)))) = some r := hr
    obtain ⟨g1, hr⟩ := z_sg_some.mp hr
    obtain ⟨g2, g3⟩ := (Bool.and_eq_true _ _).mp g1
    have g2 := Nat.le_of_ble_eq_true g2
    have g3 := Nat.le_of_ble_eq_true g3
    generalize e1 : (st.take (z_mn x)).reverse = as0 at hr
    generalize e2 : st.drop (z_mn x) = rest at hr g3
    obtain ⟨hst, hlen⟩ := z_stk e1 e2 g2
    obtain ⟨a, as, r1, rfl, g4, hC1, hrt⟩ := z_rcs hr
    obtain ⟨i, rfl, hi, hkd⟩ := z_ob_spec w7 g4
    have hM := hC _ _ _ _ k6 hC1
    have hge1 := hCge _ _ _ _ hC1
    have hge2 := z_rt_ge hge hrt
    have hz1 := z_sz_le hge1
    have hz2 := z_sz_le hge2
    have hcats := z_cats_map (base := base) (b := b) rest
    have hlen2 : as.length = z_mn x - 1 := by rw [List.length_cons] at hlen; omega
    intro H locs mls cells slots a1 a2 a3 a4 a5 a6 a7
    have hz3 := z_sz_le a5
    have hstm : st.map (z_tv base b) = (as.map (z_tv base b)).reverse ++ .ref (base + i) :: rest.map (z_tv base b) := by
      rw [hst, List.map_append, List.map_reverse, List.map_cons, z_tv_ref, List.reverse_cons, List.append_assoc]
      rfl
    have hrv := va_recv hKK.1 a2 (ci := z_mc x) (q0 := i) ((z_cOK _ w7).1) (by rw [z_wl_get hi, z_cel_ob hkd w7])
    have hrv2 : ∃ cell : Cell, H[base + i]? = some cell ∧ cell.vm.isStatics = false ∧ s.vm.findClass (z_yM x).cls = some cell.cls := by rw [← w6]; exact hrv
    refine z_fin (h := h) (x := x) (r1 := r1) (rest := rest) (va_runV (As := as.map (z_tv base b)) (rest := rest.map (z_tv base b)) (b := base + i) (C := (z_yM x).cls) (own := (z_yM M).cls) (nL := z_ml M) (cc := z_bM M) ⟨hx, hb, hml, hown, hts⟩ hM ⟨callB_of (z_mn x - 1) hts (z_good (z_mcwA x k6)) rfl rfl rfl (hts _ w3) (hts _ (z_wp_W hw rfl)) w4 ⟨hRf, ?_⟩, hts _ w1, hts _ w2⟩ ⟨z_blind, hrv2, fun U hU hW => ⟨?_, by rw [hU]; exact a1, by rw [hU]; exact a2, z_KK_warm hW hKK, z_SX_to hW hscr a3 hU⟩⟩ rfl ?_ (by rw [← hml]; exact a4.1) hstm (lv_room (by rw [hcats]; exact g3)) hdg ⟨?_, ?_⟩) hrt hK hge1 a3 a4 a5 a6 a7
    · show 8 + (z_ml x + 11) + 64 * d ≤ R.locals
      omega
    · rw [List.map_cons, z_tv_ref]
    · rw [List.length_map]; exact hlen2
    · omega
    · omega
  · -- invokestatic
    unfold z_sok at hok
    simp only [Bool.and_eq_true] at hok
    obtain ⟨⟨k1, -⟩, k3⟩ := hok
    have e := z_beq k1
    subst e
    split at k3
    · -- max
      have hr : z_pi st (fun w r => z_pi r (fun v r => z_sg (Nat.ble (z_cats r) 8) (K (pc + 3) ls (z_vi (if v < w then w else v) :: r) h))) = some r := hr
      obtain ⟨w, t, rfl, h2⟩ := z_pi_some.mp hr
      obtain ⟨v, t, rfl, h2⟩ := z_pi_some.mp h2
      obtain ⟨g1, h2⟩ := z_sg_some.mp h2
      have g1 := Nat.le_of_ble_eq_true g1
      have hge1 := hge _ _ _ _ h2
      have hz1 := z_sz_le hge1
      have hcats := z_cats_map (base := base) (b := b) t
      intro H locs mls cells slots a1 a2 a3 a4 a5 a6 a7
      have hz3 := z_sz_le a5
      exact va_mmax hx hb a4.1.symm hown (hts _ (z_wp_W hw rfl)) (hts _ (z_wp_W (q := (2, 148)) (by decide +kernel) rfl)) (hts _ (z_wp_W (q := (1, 9)) (by decide +kernel) rfl)) (hts _ (z_wp_W (q := (2, 149)) (by decide +kernel) rfl)) (by omega) (by rw [hcats]; omega) (by omega) (by omega) hdg (hK _ _ _ _ h2 H locs mls cells slots a1 a2 a3 a4 a5 a6 a7)
    · -- min
      have hr : z_pi st (fun w r => z_pi r (fun v r => z_sg (Nat.ble (z_cats r) 8) (K (pc + 3) ls (z_vi (if w < v then w else v) :: r) h))) = some r := hr
      obtain ⟨w, t, rfl, h2⟩ := z_pi_some.mp hr
      obtain ⟨v, t, rfl, h2⟩ := z_pi_some.mp h2
      obtain ⟨g1, h2⟩ := z_sg_some.mp h2
      have g1 := Nat.le_of_ble_eq_true g1
      have hge1 := hge _ _ _ _ h2
      have hz1 := z_sz_le hge1
      have hcats := z_cats_map (base := base) (b := b) t
      intro H locs mls cells slots a1 a2 a3 a4 a5 a6 a7
      have hz3 := z_sz_le a5
      exact va_mmin hx hb a4.1.symm hown (hts _ (z_wp_W hw rfl)) (hts _ (z_wp_W (q := (2, 145)) (by decide +kernel) rfl)) (hts _ (z_wp_W (q := (1, 9)) (by decide +kernel) rfl)) (hts _ (z_wp_W (q := (2, 146)) (by decide +kernel) rfl)) (by omega) (by rw [hcats]; omega) (by omega) (by omega) hdg (hK _ _ _ _ h2 H locs mls cells slots a1 a2 a3 a4 a5 a6 a7)
    · -- arraycopy
      have hr : z_pi st (fun n r => z_pi r (fun dp r => z_pr r (fun b r => z_pi r (fun sp r => z_pr r (fun a r => z_sg (Nat.ble (z_cats r) 8) (z_gd ((Nat.beq (w_kd a).1 10 && Nat.blt a (h.1 + 2)) && (Nat.beq (w_kd b).1 10 && Nat.blt b (h.1 + 2)) && (!(decide (sp < 0)) && !(decide (dp < 0)) && !(decide (n < 0))) && (Nat.ble (sp.toNatClampNeg + n.toNatClampNeg) (w_kd a).2 && Nat.ble (dp.toNatClampNeg + n.toNatClampNeg) (w_kd b).2)) (K (pc + 3) ls r (z_cpI h a sp.toNatClampNeg b dp.toNatClampNeg n.toNatClampNeg)))))))) = some r := hr
      obtain ⟨n9, t1, rfl, y1⟩ := z_pi_some.mp hr
      obtain ⟨dp, t2, rfl, y2⟩ := z_pi_some.mp y1
      obtain ⟨b9, t3, rfl, y3⟩ := z_pr_some.mp y2
      obtain ⟨sp, t4, rfl, y4⟩ := z_pi_some.mp y3
      obtain ⟨a9, t, rfl, y5⟩ := z_pr_some.mp y4
      obtain ⟨g1, y6⟩ := z_sg_some.mp y5
      obtain ⟨g2, h2⟩ := z_gd_some.mp y6
      have g1 := Nat.le_of_ble_eq_true g1
      obtain ⟨g2, g8⟩ := (Bool.and_eq_true _ _).mp g2
      obtain ⟨g2, g7⟩ := (Bool.and_eq_true _ _).mp g2
      obtain ⟨g2, g5⟩ := (Bool.and_eq_true _ _).mp g2
      obtain ⟨g3, g4⟩ := (Bool.and_eq_true _ _).mp g2
      obtain ⟨g5, g6⟩ := (Bool.and_eq_true _ _).mp g5
      obtain ⟨g7, g11⟩ := (Bool.and_eq_true _ _).mp g7
      obtain ⟨g9, g10⟩ := (Bool.and_eq_true _ _).mp g7
      obtain ⟨g12, g13⟩ := (Bool.and_eq_true _ _).mp g8
      have g3 := z_beq g3
      have g5 := z_beq g5
      have g4 := Nat.blt_eq.mp g4
      have g6 := Nat.blt_eq.mp g6
      have g9 : ¬ sp < 0 := by simpa using g9
      have g10 : ¬ dp < 0 := by simpa using g10
      have g11 : ¬ n9 < 0 := by simpa using g11
      have g12 := Nat.le_of_ble_eq_true g12
      have g13 := Nat.le_of_ble_eq_true g13
      have q1 := w_kd_small (a := a9) (by omega)
      have q2 := w_kd_small (a := b9) (by omega)
      obtain ⟨i, rfl⟩ : ∃ i, a9 = i + 2 := ⟨a9 - 2, by omega⟩
      obtain ⟨j, rfl⟩ : ∃ j, b9 = j + 2 := ⟨b9 - 2, by omega⟩
      have hcats := z_cats_map (base := base) (b := b) t
      intro H locs mls cells slots a1 a2 a3 a4 a5 a6 a7
      rw [List.map_cons, List.map_cons, List.map_cons, List.map_cons, List.map_cons, z_tv_ref, z_tv_ref]
      have hc0 := z_arrAt a2 (i := i) (by omega) g3 (by omega)
      have hc1 := z_arrAt a2 (i := j) (by omega) g5 (by omega)
      refine z_acopy (cA := cy 10) (m0 := (w_kd (i + 2)).2) (m1 := (w_kd (j + 2)).2) (f := h.2.1 (i + 2)) (g := h.2.1 (j + 2)) hx hb a4.1.symm hown (hts _ (z_wp_W hw rfl)) (hts _ (z_wp_W (q := (2, 190)) (by decide +kernel) rfl)) (hts _ (z_wp_W (q := (2, 189)) (by decide +kernel) rfl)) (hts _ (z_wp_W (q := (1, 10)) (by decide +kernel) rfl)) ((hKK.1.2 0 _ rfl).1) hc0 hc1 g9 g10 g11 g12 g13 (by omega) (by rw [hcats, show nativeFrameWords "java/lang/System" "arraycopy" 5 = 7 from rfl]; omega) hdg (fun H1 L e1 e2 e3 e4 => ?_)
      refine hK _ _ _ _ h2 H1 _ mls cells slots (by rw [e1, a1]; rfl) (z_wput a2 rfl (fun k hk => z_cpI_cel hk) (z_arrTo g5 (by omega) ?_) e3) ⟨by rw [e1]; exact a3.1, fun q h1 h2 => by rw [e3 q (fun e => h2 (by rw [e]; exact Nat.le_add_right _ _))]; exact a3.2.1 q h1 h2, fun q hq => ?_⟩ a4 a5 a6 a7
      · rw [e2]
        show _ = some (vp_cell (cy 10) (_, .inl ((z_cpI h (i + 2) sp.toNatClampNeg (j + 2) dp.toNatClampNeg n9.toNatClampNeg).2.1 (j + 2))))
        have e5 : (z_cpI h (i + 2) sp.toNatClampNeg (j + 2) dp.toNatClampNeg n9.toNatClampNeg).2.1 (j + 2) = z_cp (h.2.1 (i + 2)) (h.2.1 (j + 2)) sp.toNatClampNeg dp.toNatClampNeg n9.toNatClampNeg := z_row_eq
        rw [e5]
      · rcases List.mem_append.mp hq with hq | hq
        · exact a3.2.2 q hq
        · rw [e4 q hq]
          exact Nat.le_add_right _ _
    · -- a static method
      rw [Bool.and_eq_true, Bool.and_eq_true] at k3
      obtain ⟨⟨k4, k5⟩, k6⟩ := k3
      have k4 := z_beq k4
      have e := z_beq k5
      subst e
      obtain ⟨w1, w3, w4, w5⟩ := z_mckS k6 k4
      have hr : z_sg (Nat.ble (z_mn x) st.length && Nat.ble (z_cats (st.drop (z_mn x))) 8) (z_rt (z_mr x) (C9 x (st.take (z_mn x)).reverse h) K pc ls (st.drop (z_mn x))) = some r := hr
      obtain ⟨g1, hr⟩ := z_sg_some.mp hr
      obtain ⟨g2, g3⟩ := (Bool.and_eq_true _ _).mp g1
      have g2 := Nat.le_of_ble_eq_true g2
      have g3 := Nat.le_of_ble_eq_true g3
      generalize e1 : (st.take (z_mn x)).reverse = as at hr
      generalize e2 : st.drop (z_mn x) = rest at hr g3
      obtain ⟨hst, hlen⟩ := z_stk e1 e2 g2
      rcases hC1 : C9 x as h with _ | r1
      · rw [hC1, z_rt_none] at hr
        cases hr
      rw [hC1] at hr
      have hM := hC _ _ _ _ k6 hC1
      have hge1 := hCge _ _ _ _ hC1
      have hge2 := z_rt_ge hge hr
      have hz1 := z_sz_le hge1
      have hz2 := z_sz_le hge2
      have hcats := z_cats_map (base := base) (b := b) rest
      intro H locs mls cells slots a1 a2 a3 a4 a5 a6 a7
      have hz3 := z_sz_le a5
      have hstm : st.map (z_tv base b) = (as.map (z_tv base b)).reverse ++ rest.map (z_tv base b) := by
        rw [hst, List.map_append, List.map_reverse]
      refine z_fin (h := h) (x := x) (r1 := r1) (rest := rest) (va_runS (As := as.map (z_tv base b)) (rest := rest.map (z_tv base b)) (own := (z_yM M).cls) (nL := z_ml M) (cc := z_bM M) ⟨hx, hb, hml, hown, hts⟩ hM ⟨callB_of (z_mn x) hts (z_good (z_mcwA x k6)) rfl rfl rfl (hts _ w3) (hts _ (z_wp_W hw rfl)) w4 ⟨hRf, ?_⟩, hts _ w1⟩ ⟨z_blind, fun U hU hW => ⟨rfl, by rw [hU]; exact a1, by rw [hU]; exact a2, z_KK_warm hW hKK, z_SX_to hW hscr a3 hU⟩⟩ rfl ?_ (by rw [← hml]; exact a4.1) hstm (lv_room (by rw [hcats]; exact g3)) hdg ⟨?_, ?_⟩) hr hK hge1 a3 a4 a5 a6 a7
      · show 8 + (z_ml x + 11) + 64 * d ≤ R.locals
        omega
      · rw [List.length_map]; exact hlen
      · omega
      · omega
    · cases k3
  · -- invokespecial
    unfold z_sok at hok
    simp only [Bool.and_eq_true] at hok
    obtain ⟨⟨k1, -⟩, k3⟩ := hok
    have e := z_beq k1
    subst e
    have hctor : ∀ (zz : Nat), (zz = 2 ∨ zz = 3) → z = zz → (Nat.beq (z_kM x) 2 && Nat.beq y (z_mn x) && z_lk x) = true → z_at p l e R s m args below meth c Q D cy base b n0 pc ls st h := by
      intro zz hzz ez k3
      subst ez
      rw [Bool.and_eq_true, Bool.and_eq_true] at k3
      obtain ⟨⟨k4, k5⟩, k6⟩ := k3
      have k4 := z_beq k4
      have e := z_beq k5
      subst e
      obtain ⟨w1, w2, w2b, w3, w4, w5, w8⟩ := z_mckI k6 k4
      have hr : z_sg (Nat.ble (z_mn x) st.length && Nat.ble (z_cats (st.drop (z_mn x))) 8) (z_rc h (st.take (z_mn x)).reverse (z_mc x) (z_rt (z_mr x) (C9 x (st.take (z_mn x)).reverse h) K pc ls (st.drop (z_mn x)))) = some r := by
        rcases hzz with rfl | rfl <;> exact hr
      obtain ⟨g1, hr⟩ := z_sg_some.mp hr
      obtain ⟨g2, g3⟩ := (Bool.and_eq_true _ _).mp g1
      have g2 := Nat.le_of_ble_eq_true g2
      have g3 := Nat.le_of_ble_eq_true g3
      generalize e1 : (st.take (z_mn x)).reverse = as0 at hr
      generalize e2 : st.drop (z_mn x) = rest at hr g3
      obtain ⟨hst, hlen⟩ := z_stk e1 e2 g2
      obtain ⟨a, as, r1, rfl, g4, hC1, hrt⟩ := z_rcs hr
      have w7 : z_mc x < 8 := z_mc_lt k6 k4
      obtain ⟨i, rfl, hi, hkd⟩ := z_ob_spec w7 g4
      have hM := hC _ _ _ _ k6 hC1
      have hge1 := hCge _ _ _ _ hC1
      have hge2 := z_rt_ge hge hrt
      have hz1 := z_sz_le hge1
      have hz2 := z_sz_le hge2
      have hcats := z_cats_map (base := base) (b := b) rest
      have hlen2 : as.length = z_mn x - 1 := by rw [List.length_cons] at hlen; omega
      have hwsn : z_ws x = Cond.code (z_yM x) (z_bM x) (z_ml x) none :: z_W := by unfold z_ws; rw [w2b]
      intro H locs mls cells slots a1 a2 a3 a4 a5 a6 a7
      have hz3 := z_sz_le a5
      have hstm : st.map (z_tv base b) = (as.map (z_tv base b)).reverse ++ .ref (base + i) :: rest.map (z_tv base b) := by
        rw [hst, List.map_append, List.map_reverse, List.map_cons, z_tv_ref, List.reverse_cons, List.append_assoc]
        rfl
      have hpre : PreS s H (va_Pc ((z_vr (i + 2) :: as).map (z_tv base b)) (z_Bw D cy base b sc h)) (.ref (base + i) :: as.map (z_tv base b)) := ⟨z_blind, fun U hU hW => ⟨by rw [List.map_cons, z_tv_ref], by rw [hU]; exact a1, by rw [hU]; exact a2, z_KK_warm hW hKK, z_SX_to hW hscr a3 hU⟩⟩
      have hrl : 8 + (z_ml x + 11) + (z_rm d (r1.2.1 - h.1) (z_sz r1.2.1 - z_sz h.1)).locals ≤ R.locals := by
        show 8 + (z_ml x + 11) + 64 * d ≤ R.locals
        omega
      rcases hzz with rfl | rfl
      · exact z_fin (h := h) (x := x) (r1 := r1) (rest := rest) (va_runI (As := as.map (z_tv base b)) (rest := rest.map (z_tv base b)) (b := base + i) (own := (z_yM M).cls) (nL := z_ml M) (cc := z_bM M) ⟨hx, hb, hml, hown, hts⟩ hM ⟨callB_of (z_mn x - 1) hts (z_good (z_mcwA x k6)) hwsn rfl rfl (hts _ w3) (hts _ (z_wp_W hw rfl)) w4 ⟨hRf, hrl⟩, w2, hts _ w1⟩ hpre rfl (by rw [List.length_map]; exact hlen2) (by rw [← hml]; exact a4.1) hstm (lv_room (by rw [hcats]; exact g3)) hdg ⟨by omega, by omega⟩) hrt hK hge1 a3 a4 a5 a6 a7
      · obtain ⟨kk, hkk, en1, en2, en3⟩ := z_nest_in (own := (z_yM M).cls) (n := n) (y := z_yM x) hw
        have hnw : va_Nw (.methodLinkNest (z_yM M).cls n (z_yM x) z_host) s := by
          rw [en1, en2, en3]
          exact hKK.2.1 kk hkk
        exact z_fin (h := h) (x := x) (r1 := r1) (rest := rest) (va_runIN (As := as.map (z_tv base b)) (rest := rest.map (z_tv base b)) (b := base + i) (own := (z_yM M).cls) (host := z_host) (nL := z_ml M) (cc := z_bM M) ⟨hx, hb, hml, hown, hts⟩ hM ⟨va_cnB (z_mn x - 1) hts (z_good (z_mcwA x k6)) hwsn rfl rfl hnw (hts _ w3) w4 ⟨hRf, hrl⟩, w2, hts _ w1⟩ hpre rfl (by rw [List.length_map]; exact hlen2) (by rw [← hml]; exact a4.1) hstm (lv_room (by rw [hcats]; exact g3)) hdg ⟨by omega, by omega⟩) hrt hK hge1 a3 a4 a5 a6 a7
    split at k3
    · -- Object's constructor
      have hr : z_pr st (fun a r => z_sg (Nat.ble (z_cats r) 8) (z_gd (!(Nat.beq a 0)) (K (pc + 3) ls r h))) = some r := hr
      obtain ⟨a, t, rfl, h2⟩ := z_pr_some.mp hr
      obtain ⟨g1, h2⟩ := z_sg_some.mp h2
      obtain ⟨g2, h2⟩ := z_gd_some.mp h2
      have g1 := Nat.le_of_ble_eq_true g1
      have g2 : ¬ a = 0 := by
        intro e
        subst e
        cases g2
      have hcats := z_cats_map (base := base) (b := b) t
      intro H locs mls cells slots a1 a2 a3 a4 a5 a6 a7
      have etv : z_tv base b (z_vr a) = .ref (z_ad base b a) := by
        show va_rf (z_ro base b a) = _
        unfold z_ro
        rw [if_neg g2]
        rfl
      rw [List.map_cons, etv]
      refine W.objInit hx hb hown (hts _ (z_wp_W hw rfl)) (hts _ (z_wp_W (q := (1, 17)) (by decide +kernel) rfl)) (hts _ (z_wp_W (q := (1, 18)) (by decide +kernel) rfl)) rfl a4.1 rfl hdg (by omega) (by show 2 * 0 + _ + 12 ≤ _; rw [hcats]; omega) ?_
      exact hK _ _ _ _ h2 H locs mls cells slots a1 a2 a3 a4 a5 a6 a7
    · exact hctor 2 (Or.inl rfl) rfl k3
    · exact hctor 3 (Or.inr rfl) rfl k3
    · cases k3
end SN5
end
section
/-! RUNS of the pure semantics are runs of the machine -/
section RUN
variable {p : Program} {l : Launch} {e : Env} {R : Room} {s : State} {m : MethodId} {args : Array Value} {below : List Frame} {meth : Method} {c : Code} {Q : State → Prop} {D : va_G} {cy : Nat → ClassId} {base b n0 : Nat} {sc : z_Sc} {M : Nat} {C9 : z_C} {d : Nat} {r : z_R}
theorem z_run (hM : z_lk M = true ∨ M = 250) (X : z_Cx p s m args meth c D cy base b sc M) (hC : ∀ x as h0 r0, z_lk x = true → C9 x as h0 = some r0 → z_Met l D cy base b sc d x as h0 r0) (hCge : ∀ x as h0 r0, C9 x as h0 = some r0 → h0.1 ≤ r0.2.1) (hRc : r.2.1 - n0 ≤ R.cells) (hRs : z_sz r.2.1 - z_sz n0 ≤ R.slots) (hRf : d + 1 ≤ R.frames) (hRl : 64 * (d + 1) ≤ R.locals)
    (hri : ∀ pc ls v h, r = (some (z_vi v), h) → decode (z_bM M) pc = .ok (.ireturn, 1) → (z_rM M = some .boolean ∧ z_bo v = true ∨ z_rM M = some .int) → z_at p l e R s m args below meth c Q D cy base b n0 pc ls [z_vi v] h)
    (hrl : ∀ pc ls v h, r = (some (z_vl v), h) → decode (z_bM M) pc = .ok (.lreturn, 1) → z_rM M = some .long → z_at p l e R s m args below meth c Q D cy base b n0 pc ls [z_vl v] h)
    (hrv : ∀ pc ls h, r = (none, h) → decode (z_bM M) pc = .ok (.return_, 1) → z_rM M = none → z_at p l e R s m args below meth c Q D cy base b n0 pc ls [] h) :
    ∀ n pc ls st h, z_rn sc C9 (z_pg M) n pc ls st h = some r → z_at p l e R s m args below meth c Q D cy base b n0 pc ls st h
  | 0, _, _, _, _, q => by cases q
  | n + 1, pc, ls, st, h, q => by
    have hge : ∀ pc' ls' st' h', z_rn sc C9 (z_pg M) n pc' ls' st' h' = some r → h'.1 ≤ r.2.1 := fun pc' ls' st' h' q => z_rn_ge hCge n pc' ls' st' h' r q
    have hK := z_run hM X hC hCge hRc hRs hRf hRl hri hrl hrv n
    have q : z_st sc C9 (z_rn sc C9 (z_pg M) n) (z_gt (z_pg M) pc) pc ls st h = some r := q
    rcases hg : z_gt (z_pg M) pc with _ | ⟨g, ins, x, y, z, t, i⟩
    · rw [hg] at q
      cases q
    · rw [hg] at q
      obtain ⟨len, hm⟩ := z_gt_mem hg
      have hck := List.all_eq_true.mp (z_ckA M hM) _ hm
      unfold z_eck at hck
      simp only [Bool.and_eq_true, decide_eq_true_eq] at hck
      obtain ⟨h1, h2, h3⟩ := hck
      have hg4 := z_g_le h2
      rcases (show g = 0 ∨ g = 1 ∨ g = 2 ∨ g = 3 ∨ g = 4 by omega) with rfl | rfl | rfl | rfl | rfl
      · exact z_sn0 X h1 h2 h3 q hK
      · exact z_sn1 X h1 h2 q hK
      · exact z_sn2 X h1 h2 q hK hri hrl hrv
      · exact z_sn3 X h1 h2 h3 q hK hge hRc hRs
      · exact z_sn4 X h1 h2 h3 q hK hC hCge hge hRc hRs hRf hRl
end RUN
def z_slot (base b : Nat) (o : Option z_V) : Slot := match o with
  | some v => .val (z_tv base b v)
  | none => .second
theorem z_lay_sl {base b : Nat} : ∀ as : List z_V, lg_sl (as.map (z_tv base b)) = (z_lay as).map (z_slot base b)
  | [] => rfl
  | v :: r => by
    have ih := z_lay_sl (base := base) (b := b) r
    rw [List.map_cons]
    have e : lg_sl (z_tv base b v :: r.map (z_tv base b)) = (if (z_tv base b v).category = 2 then [.val (z_tv base b v), .second] else [.val (z_tv base b v)]) ++ lg_sl (r.map (z_tv base b)) := by
      unfold lg_sl
      rw [List.flatMap_cons]
    rw [e, ih, z_tv_cat]
    rcases v with x | a | x
    · rfl
    · rfl
    · rfl
theorem z_lv_ent {base b n : Nat} {as : List z_V} (h : (z_lay as).length ≤ n) : z_lv base b ((lg_sl (as.map (z_tv base b)) ++ List.replicate (n - (lg_sl (as.map (z_tv base b))).length) Slot.unset).toArray) n (z_ent as n) := by
  have hl : (lg_sl (as.map (z_tv base b))).length = (z_lay as).length := by rw [z_lay_sl, List.length_map]
  obtain ⟨h1, h2, -⟩ := lv_entry (as.map (z_tv base b)) (n := n) (by rw [hl]; exact h)
  refine ⟨h1, by unfold z_ent; rw [List.length_append, List.length_replicate]; omega, h2, fun i v hv => ?_⟩
  unfold z_ent at hv
  rw [z_lay_sl, List.getElem?_toArray]
  by_cases q : i < (z_lay as).length
  · rw [List.getElem?_append_left q] at hv
    rw [List.getElem?_append_left (by rw [List.length_map]; exact q), List.getElem?_map, hv]
    rfl
  · rw [List.getElem?_append_right (by omega), List.getElem?_replicate] at hv
    split at hv <;> cases hv
theorem z_mckR {x : Nat} (hx : z_lk x = true) : plainName (z_yM x).cls = true ∧ (match z_mr x with
    | 0 => decide (z_rM x = some .int) || decide (z_rM x = some .boolean)
    | 1 => decide (z_rM x = some .long)
    | 2 => decide (z_rM x = none)
    | _ => false) = true := by
  have h := z_mckA x hx
  unfold z_mck at h
  simp only [Bool.and_eq_true, decide_eq_true_eq] at h
  obtain ⟨-, -, -, -, -, -, h7, -, h9, -⟩ := h
  exact ⟨h7, h9⟩
section MET
variable {l : Launch} {D : va_G} {cy : Nat → ClassId} {base b : Nat} {sc : z_Sc}
theorem z_met : ∀ d n M as h r, z_lk M = true → z_ca z_pg sc n d M as h = some r → z_Met l D cy base b sc d M as h r
  | 0, _, _, _, _, _, _, q => by cases q
  | d + 1, n, M, as, h, r, hM, q => by
    unfold z_ca at q
    obtain ⟨hlen, hrun⟩ := z_gd_some.mp q
    have hlen := Nat.le_of_ble_eq_true hlen
    obtain ⟨hpl, hmr⟩ := z_mckR hM
    have hge := z_rn_ge (fun M as h r => z_ca_ge (P := z_pg) (sc := sc) (n := n) d M as h r) _ _ _ _ _ _ hrun
    unfold z_Met
    refine Met.ofW (cc := z_bM M) (maxL := z_ml M) (ret := z_rM M) hpl rfl ?_
    intro p e s m args below meth c s₁ B hml hv
    obtain ⟨rfl, hsz, hP, hK, hSX⟩ := hv
    have hts : ∀ w ∈ z_W, w.before ((as.map (z_tv base b)).toArray) s = true := fun w hw => atoms_spec (ws := z_ws M) B.pre w (List.mem_cons_of_mem _ hw)
    have hx := B.exec
    have hb := B.bytes
    have hret := B.returns
    have hlocks := B.notSynchronized
    have X : z_Cx p s m ((as.map (z_tv base b)).toArray) meth c D cy base b sc M := ⟨hx, hb, hml, findClass_of_methodNamed B.named, hts, hK, fun e9 => by rw [← e9]; exact (name_of_methodNamed B.named B.method).1, hSX, by omega⟩
    rw [lg_entry_eq]
    have key := z_run (l := l) (e := e) (R := z_rm (d + 1) (r.2.1 - h.1) (z_sz r.2.1 - z_sz h.1)) (below := below) (Q := MQ below (z_Qc D cy base b sc M r) ((as.map (z_tv base b)).toArray) s (r.2.1 - h.1) (z_sz r.2.1 - z_sz h.1) (fun q => base ≤ q)) (n0 := h.1) (d := d) (r := r) (Or.inl hM) X (fun x as h0 r0 hx9 hq => z_met d n x as h0 r0 hx9 hq) (fun x as h0 r0 hq => z_ca_ge d x as h0 r0 hq) (Nat.le_refl _) (Nat.le_refl _) (Nat.le_refl _) (Nat.le_refl _) ?_ ?_ ?_ n 0 _ _ _ hrun
    · exact key s.heap [] _ 0 0 hsz hP va_S.rf (by rw [hml]; exact z_lv_ent hlen) (Nat.le_refl _) (Nat.sub_self _).symm (Nat.sub_self _).symm
    · intro pc ls v h1 er hdg hty H locs mls cells slots a1 a2 a3 a4 a5 a6 a7
      subst er
      have a6 : cells = h1.1 - h.1 := a6
      have a7 : slots = z_sz h1.1 - z_sz h.1 := a7
      subst a6 a7
      have hq : ∀ t : State, t.heap = H → s.WarmedH t.vm → z_Qc D cy base b sc M (some (z_vi v), h1) ((as.map (z_tv base b)).toArray) s (.returned (some (.int v))) t := by
        intro t ht hW
        have hz : z_mr M = 0 := by
          rcases hq : z_mr M with _ | _ | _ | k
          · rfl
          · rw [hq] at hmr
            have := of_decide_eq_true hmr
            rcases hty with ⟨h9, -⟩ | h9 <;> (rw [this] at h9; cases h9)
          · rw [hq] at hmr
            have := of_decide_eq_true hmr
            rcases hty with ⟨h9, -⟩ | h9 <;> (rw [this] at h9; cases h9)
          · rw [hq] at hmr
            cases hmr
        unfold z_Qc
        rw [hz]
        exact ⟨⟨v, (), rfl, rfl, by rw [ht]; exact a1, by rw [ht]; exact a2, z_KK_warm hW hK, z_SX_to hW hSX a3 ht⟩, a3.F ht⟩
      rcases hty with ⟨h9, hbo⟩ | h9
      · exact W.zret hx hb (hret.trans h9) (by rcases z_bo_of hbo with rfl | rfl <;> decide) hq a3.2.2 hdg
      · exact W.iret hx hb (hret.trans h9) hq a3.2.2 hdg
    · intro pc ls v h1 er hdg h9 H locs mls cells slots a1 a2 a3 a4 a5 a6 a7
      subst er
      have a6 : cells = h1.1 - h.1 := a6
      have a7 : slots = z_sz h1.1 - z_sz h.1 := a7
      subst a6 a7
      have hq : ∀ t : State, t.heap = H → s.WarmedH t.vm → z_Qc D cy base b sc M (some (z_vl v), h1) ((as.map (z_tv base b)).toArray) s (.returned (some (.long v))) t := by
        intro t ht hW
        have hz : z_mr M = 1 := by
          rcases hq : z_mr M with _ | _ | _ | k
          · rw [hq] at hmr
            rw [h9] at hmr
            cases hmr
          · rfl
          · rw [hq] at hmr
            have := of_decide_eq_true hmr
            rw [this] at h9
            cases h9
          · rw [hq] at hmr
            cases hmr
        unfold z_Qc
        rw [hz]
        exact ⟨⟨v, (), rfl, rfl, by rw [ht]; exact a1, by rw [ht]; exact a2, z_KK_warm hW hK, z_SX_to hW hSX a3 ht⟩, a3.F ht⟩
      exact W.lret hx hb (hret.trans h9) hq a3.2.2 hdg
    · intro pc ls h1 er hdg h9 H locs mls cells slots a1 a2 a3 a4 a5 a6 a7
      subst er
      have a6 : cells = h1.1 - h.1 := a6
      have a7 : slots = z_sz h1.1 - z_sz h.1 := a7
      subst a6 a7
      have hq : ∀ t : State, t.heap = H → s.WarmedH t.vm → z_Qc D cy base b sc M (none, h1) ((as.map (z_tv base b)).toArray) s (.returned none) t := by
        intro t ht hW
        have hz : z_mr M = 2 := by
          rcases hq : z_mr M with _ | _ | _ | k
          · rw [hq] at hmr
            rw [h9] at hmr
            cases hmr
          · rw [hq] at hmr
            rw [h9] at hmr
            cases hmr
          · rfl
          · rw [hq] at hmr
            cases hmr
        unfold z_Qc
        rw [hz]
        exact ⟨⟨(), rfl, rfl, by rw [ht]; exact a1, by rw [ht]; exact a2, z_KK_warm hW hK, z_SX_to hW hSX a3 ht⟩, a3.F ht⟩
      exact W.vret hx hb (hret.trans h9) hq a3.2.2 hdg
end MET
end
section
/-! THE CLAIM OUT OF ONE WALK OF THE LAW'S BODY. Your part is whole_start (and what it stands on); all else here is the same for every law, but numbers. -/
def R_law : String := "PaperRoundLaw"
def lw_P (b : Addr) (xs : List Int32) (args : Array Value) (s : State) : Prop := args = #[.ref b] ∧ s.IntsAt b xs ∧ xs.length ≤ 260 ∧ (Jvm.Cond.and given_1 narrow_1).before args s = true
def lw_Q (_ : Array Value) (s : State) (o : Outcome) (t : State) : Prop := o = .returned (some (.int 1)) ∧ Framed s o t [] 600000 7302250
def lw_Z (below : List Frame) (a : Array Value) (s : State) : State → Prop := fun t => ∃ o, t.status = .running ∧ Ended t below o ∧ lw_Q a s o t
/-- the law's own end, with 1 on the stack, nothing written that was there before, its room as the claim has it -/
theorem lw_ret {p : Program} {l : Launch} {e : Env} {s : State} {m : MethodId} {below : List Frame} {meth : Method} {c : Code} {b : Nat} (hx : p.tables.exec = Jvm.exec) (hb : c.code = code) (hr : meth.sig.returnType = ret) (hlocks : meth.locks = false) {pc : Nat} {H : Heap} {ls : Array Slot} (hdg : decode code pc = .ok (.ireturn, 1)) : W p l e room_1 s m #[Value.ref b] below meth c H [] 600000 7302250 (lw_Z below #[Value.ref b] s) (F0 m pc ls [.int 1]) := by
  intro T hT X
  obtain ⟨fs, hret, hrun, hended, hW, hframe⟩ := X.leave (v := some (.int 1)) (hlocks := hlocks) (fun h => by rw [hr] at h; cases h)
  have hmeth' : T.vm.method? m = some meth := X.method'
  refine ⟨T.setFrames fs, ?_, .returned (some (.int 1)), hrun, hended, rfl, ⟨_, rfl⟩, hW, hframe⟩
  jvm_step X.here [X.here.top, hx, hb, hdg, hmeth', hr, ret, narrow_b1]
  (try refine ⟨rfl, ?_⟩); (try refine ⟨rfl, ?_⟩)
  first | (intro acts; rw [hret _ acts rfl rfl rfl]) | rw [hret _ _ rfl rfl rfl]
  exact Steps.refl _
/-- what holds at the law's entry: the machine, the code, the tables' words (any of lw_tbl by 'hts w (by decide +kernel)'), the script of L ints xs at the cell b, what the Statement gives of the start (any of its parts by flat_of_before) -/
def lw_At (p : Program) (s : State) (m : MethodId) (meth : Method) (c : Code) (b L : Nat) (xs : Nat → Int32) : Prop :=
  p.tables.exec = Jvm.exec ∧ c.code = code ∧ meth.sig.returnType = ret ∧ c.maxLocals = 19 ∧ s.vm.findClass R_law = some m.cls ∧ (∀ w ∈ lw_tbl, w.before #[Value.ref b] s = true) ∧ va_X b L xs s s.heap ∧ b < s.heap.size ∧ meth.locks = false ∧ (Jvm.Cond.and given_1 narrow_1).before #[Value.ref b] s = true
def z_h0 : z_Hp := (0, fun _ _ => 0, fun _ _ => 0, fun _ _ => 0)
theorem z_sz_200 {n : Nat} (h : n ≤ 200) : z_sz n ≤ 200 * 500 := by
  have key : ∀ n, z_sz n ≤ n * 500 := by
    intro n
    induction n with
    | zero => exact Nat.zero_le _
    | succ n ih =>
      have := w_kd_le (n + 2)
      show z_sz n + (w_kd (n + 2)).2 ≤ _
      rw [Nat.succ_mul]
      omega
  exact Nat.le_trans (key n) (Nat.mul_le_mul_right _ h)
theorem z_nst_in : (z_nst.all fun q => decide (Cond.methodLinkNest RX7 q.1 q.2 z_host ∈ lw_tbl)) = true := by decide +kernel
theorem z_known {s : State} {b : Nat} (hts : ∀ w ∈ lw_tbl, w.before #[Value.ref b] s = true) : ∃ (D : va_G) (cy : Nat → ClassId), z_KK D cy s := by
  have h1 : ∀ c : Nat, ∃ q : ClassId × (Nat → Nat), c < 8 → u_Kn s (z_cC c) (z_cT c) (z_cN c) q.1 q.2 := by
    intro c
    by_cases hc : c < 8
    · obtain ⟨o1, o2, -, -⟩ := z_cOK c hc
      obtain ⟨cC, iS, h⟩ := u_known (n := z_cN c) hts (fun w hw => (List.mem_filter.mp (o2 w hw)).1) (hts _ (List.mem_filter.mp (z_inst c hc).1).1)
      exact ⟨(cC, iS), fun _ => h⟩
    · exact ⟨(0, fun _ => 0), fun h => absurd h hc⟩
  obtain ⟨f, hf⟩ := Classical.axiomOfChoice h1
  have hin : ∀ {w : Cond}, w ∈ z_W → w ∈ lw_tbl := fun h => (List.mem_filter.mp h).1
  obtain ⟨c10, k10, p10, a10, b10, d10⟩ := Cond.arrayClass_spec (hts _ (hin z_arI))
  obtain ⟨c11, k11, p11, a11, b11, d11⟩ := Cond.arrayClass_spec (hts _ (hin z_arJ))
  obtain ⟨c13, k13, p13, a13, b13, d13⟩ := Cond.arrayClass_spec (hts _ (hin z_arZ))
  have o14 : (Cond.arrayOver (.object RX4)).before #[Value.ref b] s = true := hts _ (z_wp_in (q := (1, 78)) (by decide +kernel))
  have o15 : (Cond.arrayOver (.array .int)).before #[Value.ref b] s = true := hts _ (z_wp_in (q := (1, 26)) (by decide +kernel))
  obtain ⟨p14, c14, k14, x14, -, b14, d14, a14⟩ := Cond.arrayOver_spec o14
  obtain ⟨p15, c15, k15, x15, -, b15, d15, a15⟩ := arrayOverA_spec o15
  refine ⟨(fun c => (f c).1, fun c => (f c).2), fun t => match t with
    | 10 => c10
    | 11 => c11
    | 13 => c13
    | 14 => c14
    | _ => c15, ⟨fun c q hq => ?_, fun k q hk => ?_⟩, fun q hq => ?_, va_AO.of o14, o15⟩
  · have hc : c < 8 := (List.getElem?_eq_some_iff.mp hq).1
    rw [(z_cOK c hc).1] at hq
    cases hq
    exact hf c hc
  · match k, hk with
    | 0, hk => cases hk; exact ⟨fun n z => ⟨fun x h => (by cases h), k10, b10, p10, d10⟩, a10⟩
    | 1, hk => cases hk; exact ⟨fun n z => ⟨fun x h => (by cases h), k11, b11, p11, d11⟩, a11⟩
    | 2, hk => cases hk; exact ⟨fun n z => ⟨fun x h => (by cases h), k13, b13, p13, d13⟩, a13⟩
    | 3, hk => cases hk; exact ⟨fun n z => ⟨fun x h => (by cases h), k14, b14, p14, d14⟩, k14, p14, b14, d14, x14, a14⟩
    | 4, hk => cases hk; exact ⟨fun n z => ⟨fun x h => (by cases h), k15, b15, p15, d15⟩, a15⟩
    | k + 5, hk => simp [z_tys] at hk
  · have h2 := of_decide_eq_true (List.all_eq_true.mp z_nst_in q hq)
    exact va_Nw.of rfl (hts _ h2)
end
section
/-! THE SAME OVER WHOLE NUMBERS, behind the constructors: what is added, taken away or multiplied stays within 32 bits, or there is no answer; final references are the layout's -/
abbrev y_Hp : Type := (Nat → Nat → Int) × (Nat → Nat → Nat) × (Nat → Nat → Int64)
abbrev y_V : Type := Int ⊕ (Nat ⊕ Int64)
abbrev y_vi (x : Int) : y_V := .inl x
abbrev y_vr (a : Nat) : y_V := .inr (.inl a)
abbrev y_vl (x : Int64) : y_V := .inr (.inr x)
abbrev y_Ls : Type := List (Option y_V)
abbrev y_R : Type := Option y_V × y_Hp
abbrev y_O : Type := Option y_R
abbrev y_K : Type := Nat → y_Ls → List y_V → y_Hp → y_O
abbrev y_C : Type := Nat → List y_V → y_Hp → y_O
def y_I (h : y_Hp) (a k : Nat) : Int := h.1 a k
def y_F (h : y_Hp) (a k : Nat) : Nat := h.2.1 a k
def y_J (h : y_Hp) (a k : Nat) : Int64 := h.2.2 a k
def y_sI (h : y_Hp) (a k : Nat) (v : Int) : y_Hp := (z_row h.1 a (z_up (h.1 a) k v), h.2.1, h.2.2)
def y_sF (h : y_Hp) (a k : Nat) (v : Nat) : y_Hp := (h.1, z_row h.2.1 a (z_up (h.2.1 a) k v), h.2.2)
def y_sJ (h : y_Hp) (a k : Nat) (v : Int64) : y_Hp := (h.1, h.2.1, z_row h.2.2 a (z_up (h.2.2 a) k v))
def y_cp (f g : Nat → Int) (sp dp n : Nat) : Nat → Int := fun k => if dp ≤ k ∧ k < dp + n then f (sp + (k - dp)) else g k
def y_cpI (h : y_Hp) (a sp b dp n : Nat) : y_Hp := (z_row h.1 b (y_cp (h.1 a) (h.1 b) sp dp n), h.2.1, h.2.2)
/-- guards -/
def y_kt (a t : Nat) (x : y_O) : y_O := match Nat.beq (z_kd a).1 t with
  | true => x
  | false => none
def y_in (i : Int) (n : Nat) (x : y_O) : y_O := if 0 ≤ i ∧ i < (n : Int) then x else none
def y_rg (v : Int) (x : y_O) : y_O := if -2147483648 ≤ v ∧ v < 2147483648 then x else none
def y_b1 (v : Int) (x : y_O) : y_O := if v = 0 ∨ v = 1 then x else none
def y_nz (v : Int) (x : y_O) : y_O := if v = 0 then none else x
def y_nl (v : Int64) (x : y_O) : y_O := if v = 0 then none else x
def y_sg (b : Bool) (x : y_O) : y_O := match b with
  | true => x
  | false => none
/-- n places from sp, from dp on, of rows of so many -/
def y_cg (sp dp n : Int) (p q : Nat) (x : y_O) : y_O := if (0 ≤ sp ∧ 0 ≤ dp ∧ 0 ≤ n) ∧ (sp + n ≤ (p : Int) ∧ dp + n ≤ (q : Int)) then x else none
/-- bits, casts, long numbers -/
def y_and (v w : Int) : Int := (Int32.ofInt v &&& Int32.ofInt w).toInt
def y_or (v w : Int) : Int := (Int32.ofInt v ||| Int32.ofInt w).toInt
def y_xor (v w : Int) : Int := (Int32.ofInt v ^^^ Int32.ofInt w).toInt
def y_shl (v w : Int) : Int := (Int32.ofInt v <<< (Int32.ofInt w &&& 31)).toInt
def y_shr (v w : Int) : Int := (Int32.ofInt v >>> (Int32.ofInt w &&& 31)).toInt
def y_i2l (v : Int) : Int64 := (Int32.ofInt v).toInt64
def y_l2i (v : Int64) : Int := v.toInt32.toInt
def y_i2b (v : Int) : Int := (Int32.ofInt v).toInt8.toInt32.toInt
def y_lcmp (v w : Int64) : Int := (lg_cmp v w).toInt
def y_lshl (v : Int64) (w : Int) : Int64 := v <<< ((Int32.ofInt w).toInt64 &&& 63)
def y_lshr (v : Int64) (w : Int) : Int64 := v >>> ((Int32.ofInt w).toInt64 &&& 63)
/-- a call's answer goes on -/
def y_ci (o : y_O) (f : Int → y_Hp → y_O) : y_O := match o with
  | some (some (.inl x), h) => f x h
  | _ => none
def y_cl (o : y_O) (f : Int64 → y_Hp → y_O) : y_O := match o with
  | some (some (.inr (.inr x)), h) => f x h
  | _ => none
def y_cv (o : y_O) (f : y_Hp → y_O) : y_O := match o with
  | some (none, h) => f h
  | _ => none
def y_ldi (ls : y_Ls) (k : Nat) (f : Int → y_O) : y_O := match ls[k]? with
  | some (some (.inl x)) => f x
  | _ => none
def y_ldr (ls : y_Ls) (k : Nat) (f : Nat → y_O) : y_O := match ls[k]? with
  | some (some (.inr (.inl x))) => f x
  | _ => none
def y_ldl (ls : y_Ls) (k : Nat) (f : Int64 → y_O) : y_O := match ls[k]? with
  | some (some (.inr (.inr x))) => f x
  | _ => none
def y_cat (v : y_V) : Nat := match v with
  | .inr (.inr _) => 2
  | _ => 1
def y_cats (st : List y_V) : Nat := match st with
  | [] => 0
  | v :: r => y_cat v + y_cats r
def y_lo (o : Option (Option y_V)) : Bool := match o with
  | some (some (.inr (.inr _))) => false
  | _ => true
def y_sk (ls : y_Ls) (k : Nat) : Bool := Nat.blt k ls.length && (match k with
  | 0 => true
  | j + 1 => y_lo (ls[j]?))
def y_pi (st : List y_V) (f : Int → List y_V → y_O) : y_O := match st with
  | .inl x :: r => f x r
  | _ => none
def y_pr (st : List y_V) (f : Nat → List y_V → y_O) : y_O := match st with
  | .inr (.inl x) :: r => f x r
  | _ => none
def y_pl (st : List y_V) (f : Int64 → List y_V → y_O) : y_O := match st with
  | .inr (.inr x) :: r => f x r
  | _ => none
/-- which references change: of x house, draft; of the text's reader bytes, house; of the round house, rule, begins; of the search house -/
def z_dy (c k : Nat) : Bool := match c with
  | 7 => Nat.beq k 10 || Nat.beq k 11
  | 1 => Nat.beq k 0 || Nat.beq k 6
  | 3 => Nat.ble k 2
  | 5 => Nat.beq k 2
  | _ => false
def z_of7 : List Nat := [3, 12, 19, 20, 22, 24, 37, 39, 43, 61, 0, 0, 0, 0]
def z_of5 : List Nat := [0, 44, 0, 0, 0, 0, 0, 0, 0, 0, 45, 46, 56, 57, 58, 59, 60]
def z_of8 : List Nat := [0, 95, 0, 96, 97, 98, 99, 100, 0, 0, 0, 0, 0, 0, 101, 102, 103, 104, 105, 0, 0, 0, 0, 0, 0, 0, 0, 106, 107, 108, 109, 110, 111, 112, 113, 114, 115, 116, 117, 0, 0, 0, 0, 0, 0, 0, 118, 0]
/-- the second one of x's kind lies 117 places behind the first -/
def z_rel (a v : Nat) : Nat := match v with
  | 0 => 0
  | w + 1 => (match Nat.blt 118 a with
    | true => w + 118
    | false => w + 1)
/-- all others: where the layout has them -/
def z_of (c k a : Nat) : Nat := match c with
  | 0 => a + (k - 3)
  | 2 => a + 1
  | 3 => a + (k - 3)
  | 4 => a + 1
  | 5 => z_rel a (z_of5.getD k 0)
  | 6 => (match k with
    | 0 => a + 1
    | _ => (match a with
      | 3 => 11
      | 12 => 18
      | 120 => 128
      | _ => 135))
  | 7 => z_rel a (z_of7.getD k 0)
  | 8 => z_rel a (z_of8.getD k 0)
  | 14 => a + 1 + 2 * k
  | 15 => a + 1 + k
  | _ => 0
def y_i0 (K : y_K) (ins : Jvm.ClassFile.Instr) (x y : Nat) (pc : Nat) (ls : y_Ls) (st : List y_V) (h : y_Hp) : y_O := match ins with
  | .iload k => y_ldi ls k (fun v => K (pc + 2) ls (y_vi v :: st) h)
  | .iload_n k => y_ldi ls k.val (fun v => K (pc + 1) ls (y_vi v :: st) h)
  | .aload_n k => y_ldr ls k.val (fun v => K (pc + 1) ls (y_vr v :: st) h)
  | .aload k => y_ldr ls k (fun v => K (pc + 2) ls (y_vr v :: st) h)
  | .lload_n k => y_ldl ls k.val (fun v => K (pc + 1) ls (y_vl v :: st) h)
  | .istore k => y_pi st (fun v r => y_sg (y_sk ls k) (K (pc + 2) (ls.set k (some (y_vi v))) r h))
  | .istore_n k => y_pi st (fun v r => y_sg (y_sk ls k.val) (K (pc + 1) (ls.set k.val (some (y_vi v))) r h))
  | .astore_n k => y_pr st (fun v r => y_sg (y_sk ls k.val) (K (pc + 1) (ls.set k.val (some (y_vr v))) r h))
  | .astore k => y_pr st (fun v r => y_sg (y_sk ls k) (K (pc + 2) (ls.set k (some (y_vr v))) r h))
  | .lstore_n k => y_pl st (fun v r => y_sg (y_sk ls k.val && Nat.blt (k.val + 1) ls.length) (K (pc + 1) ((ls.set k.val (some (y_vl v))).set (k.val + 1) none) r h))
  | .iinc k n => y_ldi ls k (fun v => y_sg (y_sk ls k) (y_rg (v + n) (K (pc + 3) (ls.set k (some (y_vi (v + n)))) st h)))
  | .iconst n => K (pc + 1) ls (y_vi n :: st) h
  | .bipush n => K (pc + 2) ls (y_vi n :: st) h
  | .sipush n => K (pc + 3) ls (y_vi n :: st) h
  | .lconst n => K (pc + 1) ls (y_vl (Int64.ofNat n.val) :: st) h
  | .ldc _ => K (pc + 2) ls (y_vi (z_sn x y) :: st) h
  | .ldc2_w _ => K (pc + 3) ls (y_vl (Int64.ofInt (z_sn x y)) :: st) h
  | .pop => match st with
    | v :: r => y_sg (Nat.beq (y_cat v) 1) (K (pc + 1) ls r h)
    | [] => none
  | .dup => match st with
    | v :: r => y_sg (Nat.beq (y_cat v) 1) (K (pc + 1) ls (v :: v :: r) h)
    | [] => none
  | .dup2 => match st with
    | .inr (.inr v) :: r => K (pc + 1) ls (y_vl v :: y_vl v :: r) h
    | v :: w :: r => y_sg (Nat.beq (y_cat v) 1 && Nat.beq (y_cat w) 1) (K (pc + 1) ls (v :: w :: v :: w :: r) h)
    | _ => none
  | _ => none
def y_i1 (K : y_K) (ins : Jvm.ClassFile.Instr) (pc : Nat) (ls : y_Ls) (st : List y_V) (h : y_Hp) : y_O := match ins with
  | .iadd => y_pi st (fun w r => y_pi r (fun v r => y_rg (v + w) (K (pc + 1) ls (y_vi (v + w) :: r) h)))
  | .isub => y_pi st (fun w r => y_pi r (fun v r => y_rg (v - w) (K (pc + 1) ls (y_vi (v - w) :: r) h)))
  | .imul => y_pi st (fun w r => y_pi r (fun v r => y_rg (v * w) (K (pc + 1) ls (y_vi (v * w) :: r) h)))
  | .iand => y_pi st (fun w r => y_pi r (fun v r => K (pc + 1) ls (y_vi (y_and v w) :: r) h))
  | .ior => y_pi st (fun w r => y_pi r (fun v r => K (pc + 1) ls (y_vi (y_or v w) :: r) h))
  | .ixor => y_pi st (fun w r => y_pi r (fun v r => K (pc + 1) ls (y_vi (y_xor v w) :: r) h))
  | .ishl => y_pi st (fun w r => y_pi r (fun v r => K (pc + 1) ls (y_vi (y_shl v w) :: r) h))
  | .ishr => y_pi st (fun w r => y_pi r (fun v r => K (pc + 1) ls (y_vi (y_shr v w) :: r) h))
  | .idiv => y_pi st (fun w r => y_pi r (fun v r => y_nz w (y_rg (v.tdiv w) (K (pc + 1) ls (y_vi (v.tdiv w) :: r) h))))
  | .irem => y_pi st (fun w r => y_pi r (fun v r => y_nz w (y_rg (v.tdiv w) (y_rg (v - v.tdiv w * w) (K (pc + 1) ls (y_vi (v - v.tdiv w * w) :: r) h)))))
  | .ineg => y_pi st (fun v r => y_rg (-v) (K (pc + 1) ls (y_vi (-v) :: r) h))
  | .i2l => y_pi st (fun v r => K (pc + 1) ls (y_vl (y_i2l v) :: r) h)
  | .i2b => y_pi st (fun v r => K (pc + 1) ls (y_vi (y_i2b v) :: r) h)
  | .l2i => y_pl st (fun v r => K (pc + 1) ls (y_vi (y_l2i v) :: r) h)
  | .ladd => y_pl st (fun w r => y_pl r (fun v r => K (pc + 1) ls (y_vl (v + w) :: r) h))
  | .lmul => y_pl st (fun w r => y_pl r (fun v r => K (pc + 1) ls (y_vl (v * w) :: r) h))
  | .land => y_pl st (fun w r => y_pl r (fun v r => K (pc + 1) ls (y_vl (v &&& w) :: r) h))
  | .lor => y_pl st (fun w r => y_pl r (fun v r => K (pc + 1) ls (y_vl (v ||| w) :: r) h))
  | .ldiv => y_pl st (fun w r => y_pl r (fun v r => y_nl w (K (pc + 1) ls (y_vl (v / w) :: r) h)))
  | .lshl => y_pi st (fun w r => y_pl r (fun v r => K (pc + 1) ls (y_vl (y_lshl v w) :: r) h))
  | .lshr => y_pi st (fun w r => y_pl r (fun v r => K (pc + 1) ls (y_vl (y_lshr v w) :: r) h))
  | .lcmp => y_pl st (fun w r => y_pl r (fun v r => K (pc + 1) ls (y_vi (y_lcmp v w) :: r) h))
  | _ => none
def y_br (c : Jvm.ClassFile.Cond) (x y : Int) (A B : y_O) : y_O := match c with
  | .eq => if x = y then A else B
  | .ne => if x = y then B else A
  | .lt => if x < y then A else B
  | .ge => if x < y then B else A
  | .gt => if y < x then A else B
  | .le => if y < x then B else A
def y_sw (K : Nat → y_O) (pc : Nat) (x : Int) (d : Int) : List (Int × Int) → y_O
  | [] => K ((pc : Int) + d).toNat
  | q :: r => if x = q.1 then K ((pc : Int) + q.2).toNat else y_sw K pc x d r
def y_i2 (K : y_K) (ins : Jvm.ClassFile.Instr) (z : Nat) (pc : Nat) (ls : y_Ls) (st : List y_V) (h : y_Hp) : y_O := match ins with
  | .if_icmp c o => y_pi st (fun w r => y_pi r (fun v r => y_br c v w (K (z_tg pc o) ls r h) (K (pc + 3) ls r h)))
  | .ifCond c o => y_pi st (fun v r => y_br c v 0 (K (z_tg pc o) ls r h) (K (pc + 3) ls r h))
  | .goto o => K (z_tg pc o) ls st h
  | .tableswitch d lo _ os => y_pi st (fun v r => y_sw (fun p => K p ls r h) pc v d (z_tp lo os.toList))
  | .lookupswitch d ps => y_pi st (fun v r => y_sw (fun p => K p ls r h) pc v d ps.toList)
  | .ireturn => match st with
    | [.inl v] => match z with
      | 3 => y_b1 v (some (some (y_vi v), h))
      | _ => some (some (y_vi v), h)
    | _ => none
  | .lreturn => match st with
    | [.inr (.inr v)] => some (some (y_vl v), h)
    | _ => none
  | .return_ => match st with
    | [] => some (none, h)
    | _ => none
  | _ => none
def y_gv (h : y_Hp) (a x y z : Nat) : y_V := match z with
  | 1 => (match z_dy x y with
    | true => y_vr (y_F h a y)
    | false => y_vr (z_of x y a))
  | 2 => y_vl (y_J h a y)
  | _ => y_vi (y_I h a y)
def y_i3 (sc : z_Sc) (K : y_K) (ins : Jvm.ClassFile.Instr) (x y z : Nat) (pc : Nat) (ls : y_Ls) (st : List y_V) (h : y_Hp) : y_O := match ins with
  | .getfield _ => y_pr st (fun a r => y_kt a x (K (pc + 3) ls (y_gv h a x y z :: r) h))
  | .putfield _ => match z with
    | 0 => y_pi st (fun v r => y_pr r (fun a r => y_kt a x (K (pc + 3) ls r (y_sI h a y v))))
    | 1 => y_pr st (fun v r => y_pr r (fun a r => y_kt a x (y_sg (z_dy x y) (K (pc + 3) ls r (y_sF h a y v)))))
    | 2 => y_pl st (fun v r => y_pr r (fun a r => y_kt a x (K (pc + 3) ls r (y_sJ h a y v))))
    | _ => y_pi st (fun v r => y_pr r (fun a r => y_kt a x (y_b1 v (K (pc + 3) ls r (y_sI h a y v)))))
  | .iaload => match x with
    | 1 => y_pi st (fun i r => y_pr r (fun a r => y_sg (Nat.beq a 1) (y_in i sc.1 (K (pc + 1) ls (y_vi (sc.2 i.toNat).toInt :: r) h))))
    | _ => y_pi st (fun i r => y_pr r (fun a r => y_kt a 10 (y_in i (z_kd a).2 (K (pc + 1) ls (y_vi (y_I h a i.toNat) :: r) h))))
  | .baload => y_pi st (fun i r => y_pr r (fun a r => y_kt a x (y_in i (z_kd a).2 (K (pc + 1) ls (y_vi (y_I h a i.toNat) :: r) h))))
  | .laload => y_pi st (fun i r => y_pr r (fun a r => y_kt a 11 (y_in i (z_kd a).2 (K (pc + 1) ls (y_vl (y_J h a i.toNat) :: r) h))))
  | .aaload => y_pi st (fun i r => y_pr r (fun a r => y_kt a x (y_in i (z_kd a).2 (K (pc + 1) ls (y_vr (z_of x i.toNat a) :: r) h))))
  | .iastore => y_pi st (fun v r => y_pi r (fun i r => y_pr r (fun a r => y_kt a 10 (y_in i (z_kd a).2 (K (pc + 1) ls r (y_sI h a i.toNat v))))))
  | .bastore => match x with
    | 12 => y_pi st (fun v r => y_pi r (fun i r => y_pr r (fun a r => y_kt a 12 (y_in i (z_kd a).2 (K (pc + 1) ls r (y_sI h a i.toNat (y_i2b v)))))))
    | _ => y_pi st (fun v r => y_pi r (fun i r => y_pr r (fun a r => y_kt a 13 (y_in i (z_kd a).2 (y_b1 v (K (pc + 1) ls r (y_sI h a i.toNat v)))))))
  | .lastore => y_pl st (fun v r => y_pi r (fun i r => y_pr r (fun a r => y_kt a 11 (y_in i (z_kd a).2 (K (pc + 1) ls r (y_sJ h a i.toNat v))))))
  | .arraylength => match x with
    | 1 => y_pr st (fun a r => y_sg (Nat.beq a 1) (y_rg (sc.1 : Int) (K (pc + 1) ls (y_vi (sc.1 : Int) :: r) h)))
    | _ => y_pr st (fun a r => y_kt a x (K (pc + 1) ls (y_vi ((z_kd a).2 : Int) :: r) h))
  | _ => none
def y_rt (q : Nat) (o : y_O) (K : y_K) (pc : Nat) (ls : y_Ls) (r : List y_V) : y_O := match q with
  | 0 => y_ci o (fun v h => K (pc + 3) ls (y_vi v :: r) h)
  | 1 => y_cl o (fun v h => K (pc + 3) ls (y_vl v :: r) h)
  | _ => y_cv o (fun h => K (pc + 3) ls r h)
def y_rc (as : List y_V) (c : Nat) (x : y_O) : y_O := match as with
  | .inr (.inl a) :: _ => y_kt a c x
  | _ => none
def y_i4 (C : y_C) (K : y_K) (x y z : Nat) (pc : Nat) (ls : y_Ls) (st : List y_V) (h : y_Hp) : y_O := match z with
  | 1 => y_sg (Nat.ble y st.length && Nat.ble (y_cats (st.drop y)) 8) (y_rt (z_mr x) (C x (st.take y).reverse h) K pc ls (st.drop y))
  | 10 => y_pi st (fun w r => y_pi r (fun v r => y_sg (Nat.ble (y_cats r) 8) (K (pc + 3) ls (y_vi (max v w) :: r) h)))
  | 11 => y_pi st (fun w r => y_pi r (fun v r => y_sg (Nat.ble (y_cats r) 8) (K (pc + 3) ls (y_vi (min v w) :: r) h)))
  | 12 => y_pi st (fun n r => y_pi r (fun dp r => y_pr r (fun b r => y_pi r (fun sp r => y_pr r (fun a r => y_sg (Nat.ble (y_cats r) 8) (y_kt a 10 (y_kt b 10 (y_cg sp dp n (z_kd a).2 (z_kd b).2 (K (pc + 3) ls r (y_cpI h a sp.toNat b dp.toNat n.toNat))))))))))
  | 13 => y_pr st (fun a r => y_sg (Nat.ble (y_cats r) 8) (y_sg (!(Nat.beq a 0)) (K (pc + 3) ls r h)))
  | _ => y_sg (Nat.ble y st.length && Nat.ble (y_cats (st.drop y)) 8) (y_rc (st.take y).reverse (z_mc x) (y_rt (z_mr x) (C x (st.take y).reverse h) K pc ls (st.drop y)))
def y_st (sc : z_Sc) (C : y_C) (K : y_K) (en : Option z_En) (pc : Nat) (ls : y_Ls) (st : List y_V) (h : y_Hp) : y_O := match en with
  | some (g, ins, x, y, z, _, _) => match g with
    | 0 => y_i0 K ins x y pc ls st h
    | 1 => y_i1 K ins pc ls st h
    | 2 => y_i2 K ins z pc ls st h
    | 3 => y_i3 sc K ins x y z pc ls st h
    | _ => y_i4 C K x y z pc ls st h
  | none => none
def y_rn (sc : z_Sc) (C : y_C) (L : z_Pg) : Nat → y_K
  | 0 => fun _ _ _ _ => none
  | n + 1 => fun pc ls st h => y_st sc C (y_rn sc C L n) (z_gt L pc) pc ls st h
def y_lay : List y_V → y_Ls
  | [] => []
  | .inr (.inr v) :: r => some (y_vl v) :: none :: y_lay r
  | v :: r => some v :: y_lay r
def y_ent (as : List y_V) (n : Nat) : y_Ls := y_lay as ++ List.replicate (n - (y_lay as).length) none
def y_ca (P : Nat → z_Pg) (sc : z_Sc) (n : Nat) : Nat → y_C
  | 0 => fun _ _ _ => none
  | d + 1 => fun M as h => y_sg (Nat.ble (y_lay as).length (z_ml M)) (y_rn sc (y_ca P sc n d) (P M) n 0 (y_ent as (z_ml M)) [] h)
noncomputable def y_lim (f : Nat → y_O) : y_O := @dite _ (∃ n r, f n = some r) (Classical.propDecidable _) (fun h => some h.choose_spec.choose) (fun _ => none)
noncomputable def y_se (P : Nat → z_Pg) (sc : z_Sc) (d : Nat) : y_C := fun M as h => y_lim (fun n => y_ca P sc n d M as h)
noncomputable def y_ev (P : Nat → z_Pg) (sc : z_Sc) (d : Nat) (L : z_Pg) : y_K := fun pc ls st h => y_lim (fun n => y_rn sc (y_ca P sc n d) L n pc ls st h)
end
section
theorem y_mono_add {f : Nat → y_O} (hm : ∀ n r, f n = some r → f (n + 1) = some r) : ∀ (k n : Nat) (r : y_R), f n = some r → f (n + k) = some r
  | 0, _, _, h => h
  | k + 1, n, r, h => hm _ _ (y_mono_add hm k n r h)
theorem y_mono_le {f : Nat → y_O} (hm : ∀ n r, f n = some r → f (n + 1) = some r) {n k : Nat} {r : y_R} (hk : n ≤ k) (h : f n = some r) : f k = some r := by
  have := y_mono_add hm (k - n) n r h
  rwa [show n + (k - n) = k by omega] at this
theorem y_lim_some {f : Nat → y_O} (hm : ∀ n r, f n = some r → f (n + 1) = some r) (r : y_R) : y_lim f = some r ↔ ∃ n, f n = some r := by
  unfold y_lim
  by_cases h : ∃ n r, f n = some r
  · rw [dif_pos h]
    have h1 := h.choose_spec.choose_spec
    constructor
    · intro e
      cases e
      exact ⟨_, h1⟩
    · rintro ⟨n, hn⟩
      have a := y_mono_le hm (Nat.le_max_left n h.choose) hn
      have b := y_mono_le hm (Nat.le_max_right n h.choose) h1
      rw [a] at b
      cases b
      rfl
  · rw [dif_neg h]
    constructor
    · intro e
      cases e
    · rintro ⟨n, hn⟩
      exact absurd ⟨n, r, hn⟩ h
/-! what an instruction does, whatever goes on behind it -/
abbrev y_A : Type := Option ((Nat × y_Ls × List y_V × y_Hp) ⊕ (y_R ⊕ (Nat × List y_V × y_Hp × Nat × Nat × y_Ls × List y_V)))
def y_do (a : y_A) (C : y_C) (K : y_K) : y_O := match a with
  | none => none
  | some (.inl s) => K s.1 s.2.1 s.2.2.1 s.2.2.2
  | some (.inr (.inl r)) => some r
  | some (.inr (.inr s)) => y_rt s.2.2.2.1 (C s.1 s.2.1 s.2.2.1) K s.2.2.2.2.1 s.2.2.2.2.2.1 s.2.2.2.2.2.2
def y_Fm (f : y_C → y_K → y_O) : Prop := ∃ a : y_A, ∀ C K, f C K = y_do a C K
theorem yf_none : y_Fm (fun _ _ => none) := ⟨none, fun _ _ => rfl⟩
theorem yf_some {r : y_R} : y_Fm (fun _ _ => some r) := ⟨some (.inr (.inl r)), fun _ _ => rfl⟩
theorem yf_K {h' : y_Hp} {pc : Nat} {ls : y_Ls} {st : List y_V} : y_Fm (fun _ K => K pc ls st h') := ⟨some (.inl (pc, ls, st, h')), fun _ _ => rfl⟩
theorem yf_rt {h' : y_Hp} {q x pc : Nat} {as : List y_V} {ls : y_Ls} {r : List y_V} : y_Fm (fun C K => y_rt q (C x as h') K pc ls r) := ⟨some (.inr (.inr (x, as, h', q, pc, ls, r))), fun _ _ => rfl⟩
theorem yf_ite {c : Prop} [i : Decidable c] {f g : y_C → y_K → y_O} (hf : y_Fm f) (hg : y_Fm g) : y_Fm (fun C K => if c then f C K else g C K) := by
  by_cases q : c
  · simp only [if_pos q]
    exact hf
  · simp only [if_neg q]
    exact hg
theorem yf_in {i : Int} {n : Nat} {f : y_C → y_K → y_O} (hf : y_Fm f) : y_Fm (fun C K => y_in i n (f C K)) := yf_ite hf yf_none
theorem yf_rg {v : Int} {f : y_C → y_K → y_O} (hf : y_Fm f) : y_Fm (fun C K => y_rg v (f C K)) := yf_ite hf yf_none
theorem yf_b1 {v : Int} {f : y_C → y_K → y_O} (hf : y_Fm f) : y_Fm (fun C K => y_b1 v (f C K)) := yf_ite hf yf_none
theorem yf_nz {v : Int} {f : y_C → y_K → y_O} (hf : y_Fm f) : y_Fm (fun C K => y_nz v (f C K)) := yf_ite yf_none hf
theorem yf_nl {v : Int64} {f : y_C → y_K → y_O} (hf : y_Fm f) : y_Fm (fun C K => y_nl v (f C K)) := yf_ite yf_none hf
theorem yf_cg {sp dp n : Int} {p q : Nat} {f : y_C → y_K → y_O} (hf : y_Fm f) : y_Fm (fun C K => y_cg sp dp n p q (f C K)) := yf_ite hf yf_none
theorem yf_sg {b : Bool} {f : y_C → y_K → y_O} (hf : y_Fm f) : y_Fm (fun C K => y_sg b (f C K)) := by
  cases b
  · exact yf_none
  · exact hf
theorem yf_kt {a t : Nat} {f : y_C → y_K → y_O} (hf : y_Fm f) : y_Fm (fun C K => y_kt a t (f C K)) := by
  unfold y_kt
  cases Nat.beq (z_kd a).1 t
  · exact yf_none
  · exact hf
theorem yf_ldi {ls : y_Ls} {k : Nat} {f : Int → y_C → y_K → y_O} (hf : ∀ x, y_Fm (f x)) : y_Fm (fun C K => y_ldi ls k (fun x => f x C K)) := by
  unfold y_ldi
  rcases ls[k]? with _ | _ | x | x | x
  all_goals first | exact yf_none | exact hf x
theorem yf_ldr {ls : y_Ls} {k : Nat} {f : Nat → y_C → y_K → y_O} (hf : ∀ x, y_Fm (f x)) : y_Fm (fun C K => y_ldr ls k (fun x => f x C K)) := by
  unfold y_ldr
  rcases ls[k]? with _ | _ | x | x | x
  all_goals first | exact yf_none | exact hf x
theorem yf_ldl {ls : y_Ls} {k : Nat} {f : Int64 → y_C → y_K → y_O} (hf : ∀ x, y_Fm (f x)) : y_Fm (fun C K => y_ldl ls k (fun x => f x C K)) := by
  unfold y_ldl
  rcases ls[k]? with _ | _ | x | x | x
  all_goals first | exact yf_none | exact hf x
theorem yf_pi {st : List y_V} {f : Int → List y_V → y_C → y_K → y_O} (hf : ∀ x r, y_Fm (f x r)) : y_Fm (fun C K => y_pi st (fun x r => f x r C K)) := by
  unfold y_pi
  rcases st with _ | ⟨x | x | x, r⟩
  all_goals first | exact yf_none | exact hf x r
theorem yf_pr {st : List y_V} {f : Nat → List y_V → y_C → y_K → y_O} (hf : ∀ x r, y_Fm (f x r)) : y_Fm (fun C K => y_pr st (fun x r => f x r C K)) := by
  unfold y_pr
  rcases st with _ | ⟨x | x | x, r⟩
  all_goals first | exact yf_none | exact hf x r
theorem yf_pl {st : List y_V} {f : Int64 → List y_V → y_C → y_K → y_O} (hf : ∀ x r, y_Fm (f x r)) : y_Fm (fun C K => y_pl st (fun x r => f x r C K)) := by
  unfold y_pl
  rcases st with _ | ⟨x | x | x, r⟩
  all_goals first | exact yf_none | exact hf x r
theorem yf_rc {as : List y_V} {c : Nat} {f : y_C → y_K → y_O} (hf : y_Fm f) : y_Fm (fun C K => y_rc as c (f C K)) := by
  unfold y_rc
  rcases as with _ | ⟨x | x | x, r⟩
  all_goals first | exact yf_none | exact yf_kt hf
theorem yf_br {c : Jvm.ClassFile.Cond} {x y : Int} {f g : y_C → y_K → y_O} (hf : y_Fm f) (hg : y_Fm g) : y_Fm (fun C K => y_br c x y (f C K) (g C K)) := by
  unfold y_br
  cases c
  · exact yf_ite hf hg
  · exact yf_ite hg hf
  · exact yf_ite hf hg
  · exact yf_ite hg hf
  · exact yf_ite hf hg
  · exact yf_ite hg hf
theorem yf_sw {h : y_Hp} {ls : y_Ls} {st : List y_V} {pc : Nat} {x : Int} {d : Int} : ∀ l : List (Int × Int), y_Fm (fun _ K => y_sw (fun p => K p ls st h) pc x d l)
  | [] => yf_K
  | q :: r => by
    unfold y_sw
    exact yf_ite yf_K (yf_sw r)
theorem y_fm0 (ins : Jvm.ClassFile.Instr) (x y pc : Nat) (ls : y_Ls) (st : List y_V) (h : y_Hp) : y_Fm (fun _ K => y_i0 K ins x y pc ls st h) := by
  unfold y_i0
  split
  all_goals first
    | exact yf_none
    | exact yf_K
    | exact yf_ldi fun _ => yf_K
    | exact yf_ldi fun _ => yf_sg (yf_rg yf_K)
    | exact yf_ldr fun _ => yf_K
    | exact yf_ldl fun _ => yf_K
    | exact yf_pi fun _ _ => yf_sg yf_K
    | exact yf_pr fun _ _ => yf_sg yf_K
    | exact yf_pl fun _ _ => yf_sg yf_K
    | (split <;> first | exact yf_none | exact yf_K | exact yf_sg yf_K)
theorem y_fm1 (ins : Jvm.ClassFile.Instr) (pc : Nat) (ls : y_Ls) (st : List y_V) (h : y_Hp) : y_Fm (fun _ K => y_i1 K ins pc ls st h) := by
  unfold y_i1
  split
  all_goals first
    | exact yf_none
    | exact yf_pi fun _ _ => yf_K
    | exact yf_pi fun _ _ => yf_rg yf_K
    | exact yf_pl fun _ _ => yf_K
    | exact yf_pi fun _ _ => yf_pi fun _ _ => yf_K
    | exact yf_pi fun _ _ => yf_pi fun _ _ => yf_rg yf_K
    | exact yf_pi fun _ _ => yf_pi fun _ _ => yf_nz (yf_rg yf_K)
    | exact yf_pi fun _ _ => yf_pi fun _ _ => yf_nz (yf_rg (yf_rg yf_K))
    | exact yf_pl fun _ _ => yf_pl fun _ _ => yf_K
    | exact yf_pl fun _ _ => yf_pl fun _ _ => yf_nl yf_K
    | exact yf_pi fun _ _ => yf_pl fun _ _ => yf_K
theorem y_fm2 (ins : Jvm.ClassFile.Instr) (z pc : Nat) (ls : y_Ls) (st : List y_V) (h : y_Hp) : y_Fm (fun _ K => y_i2 K ins z pc ls st h) := by
  unfold y_i2
  split
  all_goals first
    | exact yf_none
    | exact yf_K
    | exact yf_pi fun _ _ => yf_pi fun _ _ => yf_br yf_K yf_K
    | exact yf_pi fun _ _ => yf_br yf_K yf_K
    | exact yf_pi fun _ _ => yf_sw _
    | (split <;> first | exact yf_none | exact yf_some | (split <;> first | exact yf_b1 yf_some | exact yf_some))
theorem y_fm3 (sc : z_Sc) (ins : Jvm.ClassFile.Instr) (x y z pc : Nat) (ls : y_Ls) (st : List y_V) (h : y_Hp) : y_Fm (fun _ K => y_i3 sc K ins x y z pc ls st h) := by
  unfold y_i3
  split
  all_goals first
    | exact yf_none
    | exact yf_pr fun _ _ => yf_kt yf_K
    | exact yf_pi fun _ _ => yf_pr fun _ _ => yf_kt (yf_in yf_K)
    | exact yf_pi fun _ _ => yf_pi fun _ _ => yf_pr fun _ _ => yf_kt (yf_in yf_K)
    | exact yf_pl fun _ _ => yf_pi fun _ _ => yf_pr fun _ _ => yf_kt (yf_in yf_K)
    | (split <;> first
        | exact yf_pi fun _ _ => yf_pr fun _ _ => yf_kt yf_K
        | exact yf_pi fun _ _ => yf_pr fun _ _ => yf_kt (yf_b1 yf_K)
        | exact yf_pr fun _ _ => yf_pr fun _ _ => yf_kt (yf_sg yf_K)
        | exact yf_pl fun _ _ => yf_pr fun _ _ => yf_kt yf_K
        | exact yf_pi fun _ _ => yf_pr fun _ _ => yf_sg (yf_in yf_K)
        | exact yf_pi fun _ _ => yf_pr fun _ _ => yf_kt (yf_in yf_K)
        | exact yf_pi fun _ _ => yf_pi fun _ _ => yf_pr fun _ _ => yf_kt (yf_in yf_K)
        | exact yf_pi fun _ _ => yf_pi fun _ _ => yf_pr fun _ _ => yf_kt (yf_in (yf_b1 yf_K))
        | exact yf_pr fun _ _ => yf_sg (yf_rg yf_K)
        | exact yf_pr fun _ _ => yf_kt yf_K)
theorem y_fm4 (x y z pc : Nat) (ls : y_Ls) (st : List y_V) (h : y_Hp) : y_Fm (fun C K => y_i4 C K x y z pc ls st h) := by
  unfold y_i4
  split
  · exact yf_sg yf_rt
  · exact yf_pi fun _ _ => yf_pi fun _ _ => yf_sg yf_K
  · exact yf_pi fun _ _ => yf_pi fun _ _ => yf_sg yf_K
  · exact yf_pi fun _ _ => yf_pi fun _ _ => yf_pr fun _ _ => yf_pi fun _ _ => yf_pr fun _ _ => yf_sg (yf_kt (yf_kt (yf_cg yf_K)))
  · exact yf_pr fun _ _ => yf_sg (yf_sg yf_K)
  · exact yf_sg (yf_rc yf_rt)
theorem y_fm (sc : z_Sc) (en : Option z_En) (pc : Nat) (ls : y_Ls) (st : List y_V) (h : y_Hp) : y_Fm (fun C K => y_st sc C K en pc ls st h) := by
  unfold y_st
  rcases en with _ | ⟨g, ins, x, y, z, t, i⟩
  · exact yf_none
  · dsimp only
    split
    · exact y_fm0 ins x y pc ls st h
    · exact y_fm1 ins pc ls st h
    · exact y_fm2 ins z pc ls st h
    · exact y_fm3 sc ins x y z pc ls st h
    · exact y_fm4 x y z pc ls st h
/-! the runs grow with their steps; the limit's equation -/
def y_leC (C D : y_C) : Prop := ∀ M as h r, C M as h = some r → D M as h = some r
def y_leK (C D : y_K) : Prop := ∀ pc ls st h r, C pc ls st h = some r → D pc ls st h = some r
theorem y_rt_le {q pc : Nat} {o o' : y_O} {K K' : y_K} {ls : y_Ls} {st : List y_V} (ho : ∀ r, o = some r → o' = some r) (hK : y_leK K K') {r : y_R} (h : y_rt q o K pc ls st = some r) : y_rt q o' K' pc ls st = some r := by
  unfold y_rt y_ci y_cl y_cv at h ⊢
  rcases o with _ | ⟨_ | x | x | x, h1⟩
  · split at h <;> cases h
  · rw [ho _ rfl]
    split at h
    · cases h
    · cases h
    · exact hK _ _ _ _ _ h
  · rw [ho _ rfl]
    split at h
    · exact hK _ _ _ _ _ h
    · cases h
    · cases h
  · rw [ho _ rfl]
    split at h <;> cases h
  · rw [ho _ rfl]
    split at h
    · cases h
    · exact hK _ _ _ _ _ h
    · cases h
theorem y_do_le {a : y_A} {C C' : y_C} {K K' : y_K} (hC : y_leC C C') (hK : y_leK K K') {r : y_R} (h : y_do a C K = some r) : y_do a C' K' = some r := by
  rcases a with _ | ⟨s | s | s⟩
  · exact h
  · exact hK _ _ _ _ _ h
  · exact h
  · exact y_rt_le (fun r hr => hC _ _ _ _ hr) hK h
theorem y_st_le {sc : z_Sc} {en : Option z_En} {C C' : y_C} {K K' : y_K} (hC : y_leC C C') (hK : y_leK K K') {pc : Nat} {ls : y_Ls} {st : List y_V} {h : y_Hp} {r : y_R} (hr : y_st sc C K en pc ls st h = some r) : y_st sc C' K' en pc ls st h = some r := by
  obtain ⟨a, ha⟩ := y_fm sc en pc ls st h
  have h1 := ha C K
  have h2 := ha C' K'
  dsimp only at h1 h2
  rw [h1] at hr
  rw [h2]
  exact y_do_le hC hK hr
theorem y_rn_C {sc : z_Sc} {C C' : y_C} (hC : y_leC C C') (L : z_Pg) : ∀ n, y_leK (y_rn sc C L n) (y_rn sc C' L n)
  | 0 => fun _ _ _ _ _ h => h
  | n + 1 => fun _ _ _ _ _ h => y_st_le hC (y_rn_C hC L n) h
theorem y_rn_s {sc : z_Sc} {C : y_C} (L : z_Pg) : ∀ n, y_leK (y_rn sc C L n) (y_rn sc C L (n + 1))
  | 0 => fun _ _ _ _ _ h => by cases h
  | n + 1 => fun _ _ _ _ _ h => y_st_le (fun _ _ _ _ h => h) (y_rn_s L n) h
theorem y_ca_s {P : Nat → z_Pg} {sc : z_Sc} (n : Nat) : ∀ d, y_leC (y_ca P sc n d) (y_ca P sc (n + 1) d)
  | 0 => fun _ _ _ _ h => h
  | d + 1 => fun M as _ _ h => by
    unfold y_ca at h ⊢
    cases hb : Nat.ble (y_lay as).length (z_ml M)
    · rw [hb] at h
      cases h
    · rw [hb] at h
      exact y_rn_C (y_ca_s n d) _ _ _ _ _ _ _ (y_rn_s _ n _ _ _ _ _ h)
theorem y_run_s {P : Nat → z_Pg} {sc : z_Sc} {d : Nat} {L : z_Pg} (n : Nat) : y_leK (y_rn sc (y_ca P sc n d) L n) (y_rn sc (y_ca P sc (n + 1) d) L (n + 1)) := fun _ _ _ _ _ h => y_rn_C (y_ca_s n d) L _ _ _ _ _ _ (y_rn_s L n _ _ _ _ _ h)
theorem y_se_iff {P : Nat → z_Pg} {sc : z_Sc} {d M : Nat} {as : List y_V} {h : y_Hp} {r : y_R} : y_se P sc d M as h = some r ↔ ∃ n, y_ca P sc n d M as h = some r := y_lim_some (fun n r hr => y_ca_s n d _ _ _ _ hr) r
theorem y_ev_iff {P : Nat → z_Pg} {sc : z_Sc} {d : Nat} {L : z_Pg} {pc : Nat} {ls : y_Ls} {st : List y_V} {h : y_Hp} {r : y_R} : y_ev P sc d L pc ls st h = some r ↔ ∃ n, y_rn sc (y_ca P sc n d) L n pc ls st h = some r := y_lim_some (fun n r hr => y_run_s n _ _ _ _ _ hr) r
theorem y_o_ext {a b : y_O} (h : ∀ r, a = some r ↔ b = some r) : a = b := by
  rcases a with _ | a
  · rcases b with _ | b
    · rfl
    · exact ((h b).mpr rfl)
  · exact ((h a).mp rfl).symm
theorem y_ca_le {P : Nat → z_Pg} {sc : z_Sc} {n k d : Nat} (hk : n ≤ k) : y_leC (y_ca P sc n d) (y_ca P sc k d) := fun M as h r hr => y_mono_le (f := fun n => y_ca P sc n d M as h) (fun n r hr => y_ca_s n d _ _ _ _ hr) hk hr
theorem y_rn_le {P : Nat → z_Pg} {sc : z_Sc} {L : z_Pg} {n k d : Nat} (hk : n ≤ k) : y_leK (y_rn sc (y_ca P sc n d) L n) (y_rn sc (y_ca P sc k d) L k) := fun pc ls st h r hr => y_mono_le (f := fun n => y_rn sc (y_ca P sc n d) L n pc ls st h) (fun n r hr => y_run_s n _ _ _ _ _ hr) hk hr
/-- what is reached in the limit of the calls and of what goes on is reached at some number of steps -/
theorem y_do_lim {P : Nat → z_Pg} {sc : z_Sc} {d : Nat} {L : z_Pg} {a : y_A} {r : y_R} (h : y_do a (y_se P sc d) (y_ev P sc d L) = some r) : ∃ n, y_do a (y_ca P sc n d) (y_rn sc (y_ca P sc n d) L n) = some r := by
  rcases a with _ | ⟨s | s | s⟩
  · cases h
  · exact y_ev_iff.mp h
  · exact ⟨0, h⟩
  · obtain ⟨x, as, h0, q, pc, ls, st⟩ := s
    show ∃ n, y_rt q (y_ca P sc n d x as h0) (y_rn sc (y_ca P sc n d) L n) pc ls st = some r
    have h' : y_rt q (y_se P sc d x as h0) (y_ev P sc d L) pc ls st = some r := h
    rcases ho : y_se P sc d x as h0 with _ | ⟨v, h1⟩
    · rw [ho] at h'
      unfold y_rt y_ci y_cl y_cv at h'
      split at h' <;> cases h'
    · obtain ⟨n1, hn1⟩ := y_se_iff.mp ho
      rw [ho] at h'
      have key : ∃ n2, y_rt q (some (v, h1)) (y_rn sc (y_ca P sc n2 d) L n2) pc ls st = some r := by
        unfold y_rt y_ci y_cl y_cv at h' ⊢
        split at h' <;> split at h' <;> first | exact y_ev_iff.mp h' | cases h' | skip
        all_goals (rename_i he; cases he; exact y_ev_iff.mp h')
      obtain ⟨n2, hn2⟩ := key
      refine ⟨max n1 n2, ?_⟩
      refine y_rt_le (o := some (v, h1)) (fun r hr => ?_) (y_rn_le (Nat.le_max_right n1 n2)) hn2
      rw [← hr]
      exact y_ca_le (Nat.le_max_left n1 n2) _ _ _ _ hn1
/-- THE EQUATION -/
theorem y_ev_eq (P : Nat → z_Pg) (sc : z_Sc) (d : Nat) (L : z_Pg) (pc : Nat) (ls : y_Ls) (st : List y_V) (h : y_Hp) : y_ev P sc d L pc ls st h = y_st sc (y_se P sc d) (y_ev P sc d L) (z_gt L pc) pc ls st h := by
  obtain ⟨a, ha⟩ := y_fm sc (z_gt L pc) pc ls st h
  have e : ∀ C K, y_st sc C K (z_gt L pc) pc ls st h = y_do a C K := ha
  refine y_o_ext fun r => ⟨fun hr => ?_, fun hr => ?_⟩
  · obtain ⟨n, hn⟩ := y_ev_iff.mp hr
    cases n with
    | zero => cases hn
    | succ n =>
      have h1 : y_st sc (y_ca P sc (n + 1) d) (y_rn sc (y_ca P sc (n + 1) d) L n) (z_gt L pc) pc ls st h = some r := hn
      refine y_st_le (fun _ _ _ _ q => y_se_iff.mpr ⟨_, q⟩) (fun pc ls st h r q => y_ev_iff.mpr ⟨n + 1, y_rn_s L n _ _ _ _ _ q⟩) h1
  · rw [e] at hr
    obtain ⟨n, hn⟩ := y_do_lim hr
    refine y_ev_iff.mpr ⟨n + 1, ?_⟩
    show y_st sc (y_ca P sc (n + 1) d) (y_rn sc (y_ca P sc (n + 1) d) L n) (z_gt L pc) pc ls st h = some r
    rw [e]
    exact y_do_le (y_ca_s n d) (y_rn_C (y_ca_s n d) L n) hn
theorem y_se_eq (P : Nat → z_Pg) (sc : z_Sc) (d M : Nat) (as : List y_V) (h : y_Hp) (hb : Nat.ble (y_lay as).length (z_ml M) = true) : y_se P sc (d + 1) M as h = y_ev P sc d (P M) 0 (y_ent as (z_ml M)) [] h := by
  show y_lim (fun n => y_sg (Nat.ble (y_lay as).length (z_ml M)) (y_rn sc (y_ca P sc n d) (P M) n 0 (y_ent as (z_ml M)) [] h)) = _
  rw [hb]
  rfl
/-- so many steps unfolded, but not beyond the places that are named -/
def y_un (sc : z_Sc) (C : y_C) (E : y_K) (L : z_Pg) (stops : List Nat) : Nat → y_K
  | 0 => E
  | k + 1 => fun pc ls st h => y_st sc C (fun pc' ls' st' h' => match z_has stops pc' with
    | true => E pc' ls' st' h'
    | false => y_un sc C E L stops k pc' ls' st' h') (z_gt L pc) pc ls st h
theorem y_un_eq (P : Nat → z_Pg) (sc : z_Sc) (d : Nat) (L : z_Pg) (stops : List Nat) : ∀ (k pc : Nat) (ls : y_Ls) (st : List y_V) (h : y_Hp), y_ev P sc d L pc ls st h = y_un sc (y_se P sc d) (y_ev P sc d L) L stops k pc ls st h
  | 0, _, _, _, _ => rfl
  | k + 1, pc, ls, st, h => by
    rw [y_ev_eq]
    unfold y_un
    congr 1
    funext pc' ls' st' h'
    split
    · rfl
    · exact y_un_eq P sc d L stops k pc' ls' st' h'
end
section
/-! WHAT COMES OVER WHOLE NUMBERS comes over the machine's numbers -/
def y_inr (v : Int) : Prop := -2147483648 ≤ v ∧ v < 2147483648
/-- a cell's number with the machine, and back -/
def c_t (a : Nat) : Nat := match Nat.blt a 94 with
  | true => a
  | false => (match Nat.blt a 211 with
    | true => a - 25
    | false => a - 50)
def c_u (b : Nat) : Nat := match Nat.blt b 94 with
  | true => b
  | false => (match Nat.blt b 186 with
    | true => b + 25
    | false => b + 50)
/-- what a reference may be, of so many cells: null, the script, the two x, the rows behind them; no ghost -/
def y_ng (nn a : Nat) : Bool := Nat.blt a 94 || (Nat.blt 118 a && (Nat.blt a 211 || (Nat.blt 235 a && (Nat.blt a 240 && Nat.blt a (nn + 52)))))
def c_V (v : y_V) : z_V := match v with
  | .inl x => .inl (Int32.ofInt x)
  | .inr (.inl a) => .inr (.inl (c_t a))
  | .inr (.inr j) => .inr (.inr j)
def c_Ls (ls : y_Ls) : z_Ls := ls.map (Option.map c_V)
def z_cF (h : y_Hp) (a k : Nat) : Nat := match z_dy (z_kd a).1 k with
  | true => h.2.1 a k
  | false => z_of (z_kd a).1 k a
def c_H (nn : Nat) (h : y_Hp) : z_Hp := (nn, fun b k => Int32.ofInt (h.1 (c_u b) k), fun b k => c_t (z_cF h (c_u b) k), fun b k => h.2.2 (c_u b) k)
def c_R (nn : Nat) (r : y_R) : z_R := (r.1.map c_V, c_H nn r.2)
def y_okV (nn : Nat) (v : y_V) : Prop := match v with
  | .inl x => y_inr x
  | .inr (.inl a) => y_ng nn a = true
  | .inr (.inr _) => True
def y_okS (nn : Nat) (st : List y_V) : Prop := ∀ v ∈ st, y_okV nn v
def y_okL (nn : Nat) (ls : y_Ls) : Prop := ∀ (k : Nat) (v : y_V), ls[k]? = some (some v) → y_okV nn v
def y_okH (nn : Nat) (h : y_Hp) : Prop := (∀ a k, y_inr (h.1 a k)) ∧ ∀ a k, y_ng nn (h.2.1 a k) = true
def y_okR (nn : Nat) (r : y_R) : Prop := (∀ v, r.1 = some v → y_okV nn v) ∧ y_okH nn r.2
theorem y_ng_iff {nn a : Nat} : y_ng nn a = true ↔ (a < 94 ∨ (118 < a ∧ a < 211) ∨ (235 < a ∧ a < 240 ∧ a < nn + 52)) := by
  unfold y_ng
  simp only [Bool.or_eq_true, Bool.and_eq_true, Nat.blt_eq]
  omega
theorem c_t_eq {a : Nat} : c_t a = if a < 94 then a else if a < 211 then a - 25 else a - 50 := by
  unfold c_t
  by_cases h1 : a < 94
  · rw [if_pos h1, Nat.blt_eq.mpr h1]
  · have e1 : Nat.blt a 94 = false := by
      cases q : Nat.blt a 94
      · rfl
      · exact absurd (Nat.blt_eq.mp q) h1
    rw [if_neg h1, e1]
    by_cases h2 : a < 211
    · rw [if_pos h2, Nat.blt_eq.mpr h2]
    · have e2 : Nat.blt a 211 = false := by
        cases q : Nat.blt a 211
        · rfl
        · exact absurd (Nat.blt_eq.mp q) h2
      rw [if_neg h2, e2]
theorem c_u_eq {b : Nat} : c_u b = if b < 94 then b else if b < 186 then b + 25 else b + 50 := by
  unfold c_u
  by_cases h1 : b < 94
  · rw [if_pos h1, Nat.blt_eq.mpr h1]
  · have e1 : Nat.blt b 94 = false := by
      cases q : Nat.blt b 94
      · rfl
      · exact absurd (Nat.blt_eq.mp q) h1
    rw [if_neg h1, e1]
    by_cases h2 : b < 186
    · rw [if_pos h2, Nat.blt_eq.mpr h2]
    · have e2 : Nat.blt b 186 = false := by
        cases q : Nat.blt b 186
        · rfl
        · exact absurd (Nat.blt_eq.mp q) h2
      rw [if_neg h2, e2]
theorem c_ut {nn a : Nat} (h : y_ng nn a = true) : c_u (c_t a) = a := by
  have h := y_ng_iff.mp h
  rw [c_t_eq, c_u_eq]
  (repeat' split) <;> omega
theorem c_u_iff {nn a b : Nat} (h : y_ng nn a = true) : c_u b = a ↔ b = c_t a := by
  have h := y_ng_iff.mp h
  rw [c_t_eq, c_u_eq]
  constructor
  · intro q
    split at q
    · rw [if_pos (by omega)]; omega
    · split at q
      · rw [if_neg (by omega), if_pos (by omega)]; omega
      · rw [if_neg (by omega), if_neg (by omega)]; omega
  · intro q
    subst q
    (repeat' split) <;> omega
theorem c_t_lt {nn a : Nat} (hn : nn = 186 ∨ nn = 188) (h : y_ng nn a = true) : c_t a < nn + 2 := by
  have h := y_ng_iff.mp h
  rw [c_t_eq]
  (repeat' split) <;> omega
theorem c_t_0 {nn a : Nat} (h : y_ng nn a = true) : c_t a = 0 ↔ a = 0 := by
  have h := y_ng_iff.mp h
  rw [c_t_eq]
  (repeat' split) <;> omega
theorem c_t_kd {nn a : Nat} (h : y_ng nn a = true) : w_kd (c_t a) = z_kd a := by
  have key : ((List.range 240).all fun a => !(y_ng 188 a) || decide (w_kd (c_t a) = z_kd a)) = true := by decide +kernel
  have h1 := y_ng_iff.mp h
  have h2 : y_ng 188 a = true := y_ng_iff.mpr (by omega)
  have h3 := List.all_eq_true.mp key a (List.mem_range.mpr (by omega))
  rw [h2] at h3
  exact of_decide_eq_true h3
theorem z_kd_le (a : Nat) : (z_kd a).2 ≤ 500 := by
  have key : (z_kdl.all fun q => Nat.ble q.2 500) = true := by decide +kernel
  unfold z_kd
  split
  · rename_i q hq
    exact Nat.le_of_ble_eq_true (List.all_eq_true.mp key q (List.mem_of_getElem? hq))
  · exact Nat.zero_le _
theorem y_toInt {v : Int} (h : y_inr v) : (Int32.ofInt v).toInt = v := by
  rw [Int32.toInt_ofInt]
  have e9 : Int32.size = 4294967296 := rfl
  exact Int.bmod_eq_of_le (by unfold y_inr at h; omega) (by unfold y_inr at h; omega)
theorem y_inr_to (x : Int32) : y_inr x.toInt := by
  have h1 := Int32.le_toInt x
  have h2 := Int32.toInt_lt x
  unfold y_inr
  omega
theorem y_ofto (x : Int32) : Int32.ofInt x.toInt = x := Int32.ofInt_toInt x
theorem y_eq_c {v w : Int} (h : y_inr v) (g : y_inr w) : (Int32.ofInt v = Int32.ofInt w) ↔ v = w :=
  ⟨fun e => by rw [← y_toInt h, ← y_toInt g, e], fun e => by rw [e]⟩
theorem y_lt_c {v w : Int} (h : y_inr v) (g : y_inr w) : (Int32.ofInt v < Int32.ofInt w) ↔ v < w := by
  rw [Int32.lt_iff_toInt_lt, y_toInt h, y_toInt g]
theorem y_lt0_c {v : Int} (h : y_inr v) : (Int32.ofInt v < 0) ↔ v < 0 := y_lt_c (w := 0) h (by unfold y_inr; omega)
theorem y_nat_c {v : Int} (h : y_inr v) : (Int32.ofInt v).toNatClampNeg = v.toNat := by
  show (Int32.ofInt v).toInt.toNat = _
  rw [y_toInt h]
theorem y_ldi_some {ls : y_Ls} {k : Nat} {f : Int → y_O} {r : y_R} : y_ldi ls k f = some r ↔ ∃ x, ls[k]? = some (some (y_vi x)) ∧ f x = some r := by
  unfold y_ldi
  rcases ls[k]? with _ | _ | x | x | x <;> simp
theorem y_ldr_some {ls : y_Ls} {k : Nat} {f : Nat → y_O} {r : y_R} : y_ldr ls k f = some r ↔ ∃ x, ls[k]? = some (some (y_vr x)) ∧ f x = some r := by
  unfold y_ldr
  rcases ls[k]? with _ | _ | x | x | x <;> simp
theorem y_ldl_some {ls : y_Ls} {k : Nat} {f : Int64 → y_O} {r : y_R} : y_ldl ls k f = some r ↔ ∃ x, ls[k]? = some (some (y_vl x)) ∧ f x = some r := by
  unfold y_ldl
  rcases ls[k]? with _ | _ | x | x | x <;> simp
theorem y_pi_some {st : List y_V} {f : Int → List y_V → y_O} {r : y_R} : y_pi st f = some r ↔ ∃ x t, st = y_vi x :: t ∧ f x t = some r := by
  unfold y_pi
  rcases st with _ | ⟨x | x | x, t⟩ <;> simp
theorem y_pr_some {st : List y_V} {f : Nat → List y_V → y_O} {r : y_R} : y_pr st f = some r ↔ ∃ x t, st = y_vr x :: t ∧ f x t = some r := by
  unfold y_pr
  rcases st with _ | ⟨x | x | x, t⟩ <;> simp
theorem y_pl_some {st : List y_V} {f : Int64 → List y_V → y_O} {r : y_R} : y_pl st f = some r ↔ ∃ x t, st = y_vl x :: t ∧ f x t = some r := by
  unfold y_pl
  rcases st with _ | ⟨x | x | x, t⟩ <;> simp
theorem y_sg_some {b : Bool} {x : y_O} {r : y_R} : y_sg b x = some r ↔ b = true ∧ x = some r := by cases b <;> simp [y_sg]
theorem y_if_some {c : Prop} [Decidable c] {x : y_O} {r : y_R} : (if c then x else none) = some r ↔ c ∧ x = some r := by
  by_cases q : c
  · rw [if_pos q]; exact ⟨fun h => ⟨q, h⟩, fun h => h.2⟩
  · rw [if_neg q]; exact ⟨fun h => (by cases h), fun h => absurd h.1 q⟩
theorem y_in_some {i : Int} {n : Nat} {x : y_O} {r : y_R} : y_in i n x = some r ↔ (0 ≤ i ∧ i < (n : Int)) ∧ x = some r := y_if_some
theorem y_rg_some {v : Int} {x : y_O} {r : y_R} : y_rg v x = some r ↔ y_inr v ∧ x = some r := y_if_some
theorem y_b1_some {v : Int} {x : y_O} {r : y_R} : y_b1 v x = some r ↔ (v = 0 ∨ v = 1) ∧ x = some r := y_if_some
theorem y_nz_some {v : Int} {x : y_O} {r : y_R} : y_nz v x = some r ↔ ¬ v = 0 ∧ x = some r := by
  unfold y_nz
  by_cases q : v = 0
  · rw [if_pos q]; exact ⟨fun h => (by cases h), fun h => absurd q h.1⟩
  · rw [if_neg q]; exact ⟨fun h => ⟨q, h⟩, fun h => h.2⟩
theorem y_nl_some {v : Int64} {x : y_O} {r : y_R} : y_nl v x = some r ↔ ¬ v = 0 ∧ x = some r := by
  unfold y_nl
  by_cases q : v = 0
  · rw [if_pos q]; exact ⟨fun h => (by cases h), fun h => absurd q h.1⟩
  · rw [if_neg q]; exact ⟨fun h => ⟨q, h⟩, fun h => h.2⟩
theorem y_cg_some {sp dp n : Int} {p q : Nat} {x : y_O} {r : y_R} : y_cg sp dp n p q x = some r ↔ ((0 ≤ sp ∧ 0 ≤ dp ∧ 0 ≤ n) ∧ (sp + n ≤ (p : Int) ∧ dp + n ≤ (q : Int))) ∧ x = some r := y_if_some
theorem y_kt_some {a t : Nat} {x : y_O} {r : y_R} : y_kt a t x = some r ↔ (z_kd a).1 = t ∧ x = some r := by
  unfold y_kt
  cases h : Nat.beq (z_kd a).1 t
  · exact ⟨fun q => (by cases q), fun q => by rw [q.1, Nat.beq_refl] at h; cases h⟩
  · exact ⟨fun q => ⟨z_beq h, q⟩, fun q => q.2⟩
theorem y_okS_cons {nn : Nat} {v : y_V} {st : List y_V} : y_okS nn (v :: st) ↔ y_okV nn v ∧ y_okS nn st := by
  unfold y_okS
  simp
theorem y_okL_set {nn : Nat} {ls : y_Ls} {k : Nat} {o : Option y_V} (h : y_okL nn ls) (g : ∀ v, o = some v → y_okV nn v) : y_okL nn (ls.set k o) := by
  intro j v hj
  rw [List.getElem?_set] at hj
  split at hj
  · split at hj
    · exact g v (Option.some.inj hj)
    · cases hj
  · exact h j v hj
theorem y_ob_c {nn : Nat} (hn : nn = 186 ∨ nn = 188) {h : y_Hp} {a c : Nat} (ha : y_okV nn (y_vr a)) (g : (z_kd a).1 = c) : z_ob (c_H nn h) (c_t a) c = true := by
  have h1 := c_t_lt hn ha
  unfold z_ob
  rw [c_t_kd ha, g, Nat.beq_refl, Bool.true_and]
  exact Nat.blt_eq.mpr h1
theorem y_ar_c {nn : Nat} (hn : nn = 186 ∨ nn = 188) {h : y_Hp} {a t : Nat} {i : Int} (ha : y_okV nn (y_vr a)) (g : (z_kd a).1 = t) (hi : y_inr i) (hi2 : 0 ≤ i ∧ i < ((z_kd a).2 : Int)) : z_ar (c_H nn h) (c_t a) t (Int32.ofInt i) = true := by
  have := y_ob_c hn (h := h) ha g
  unfold z_ob at this
  unfold z_ar z_in
  rw [this, Bool.true_and, Bool.and_eq_true]
  refine ⟨?_, ?_⟩
  · have : ¬ (Int32.ofInt i < 0) := fun q => by have := (y_lt0_c hi).mp q; omega
    simp [this]
  · rw [y_nat_c hi, c_t_kd ha]
    exact Nat.blt_eq.mpr (by omega)
theorem z_ldi_c {ls : y_Ls} {k : Nat} {x : Int} {f : Int32 → z_O} (h : ls[k]? = some (some (y_vi x))) : z_ldi (c_Ls ls) k f = f (Int32.ofInt x) := by
  unfold z_ldi c_Ls
  rw [List.getElem?_map, h]
  rfl
theorem z_ldr_c {ls : y_Ls} {k : Nat} {x : Nat} {f : Nat → z_O} (h : ls[k]? = some (some (y_vr x))) : z_ldr (c_Ls ls) k f = f (c_t x) := by
  unfold z_ldr c_Ls
  rw [List.getElem?_map, h]
  rfl
theorem z_ldl_c {ls : y_Ls} {k : Nat} {x : Int64} {f : Int64 → z_O} (h : ls[k]? = some (some (y_vl x))) : z_ldl (c_Ls ls) k f = f x := by
  unfold z_ldl c_Ls
  rw [List.getElem?_map, h]
  rfl
theorem z_sk_c {ls : y_Ls} {k : Nat} : z_sk (c_Ls ls) k = y_sk ls k := by
  unfold z_sk y_sk c_Ls
  rw [List.length_map]
  congr 1
  cases k with
  | zero => rfl
  | succ j =>
    show z_lo _ = y_lo _
    rw [List.getElem?_map]
    rcases ls[j]? with _ | _ | x | x | x <;> rfl
theorem c_Ls_set {ls : y_Ls} {k : Nat} {o : Option y_V} : (c_Ls ls).set k (o.map c_V) = c_Ls (ls.set k o) := by
  unfold c_Ls
  rw [List.map_set]
theorem z_cat_c (v : y_V) : z_cat (c_V v) = y_cat v := by
  rcases v with x | x | x <;> rfl
theorem z_cats_c : ∀ st : List y_V, z_cats (st.map c_V) = y_cats st
  | [] => rfl
  | v :: r => by
    show z_cat (c_V v) + z_cats (r.map c_V) = _
    rw [z_cats_c r, z_cat_c]
    rfl
/-- a write to a cell that the machine has -/
theorem c_row {α β : Type} {nn a : Nat} (ha : y_ng nn a = true) (f : Nat → Nat → α) (g : Nat → α) (F : α → β) (b j : Nat) : F (z_row f a g (c_u b) j) = z_row (fun b k => F (f (c_u b) k)) (c_t a) (fun k => F (g k)) b j := by
  unfold z_row
  by_cases e : c_u b = a
  · rw [if_pos e, if_pos ((c_u_iff ha).mp e)]
  · rw [if_neg e, if_neg (fun q => e ((c_u_iff ha).mpr q))]
theorem c_sI {nn : Nat} {h : y_Hp} {a k : Nat} {v : Int} (ha : y_okV nn (y_vr a)) : c_H nn (y_sI h a k v) = z_sI (c_H nn h) (c_t a) k (Int32.ofInt v) := by
  refine Prod.ext rfl (Prod.ext ?_ rfl)
  funext b j
  show Int32.ofInt (z_row h.1 a (z_up (h.1 a) k v) (c_u b) j) = _
  rw [c_row ha h.1 _ Int32.ofInt b j]
  show _ = z_row (fun b k => Int32.ofInt (h.1 (c_u b) k)) (c_t a) (z_up (fun k => Int32.ofInt (h.1 (c_u (c_t a)) k)) k (Int32.ofInt v)) b j
  rw [c_ut ha]
  congr 1
  funext q
  unfold z_up
  split <;> rfl
theorem c_sJ {nn : Nat} {h : y_Hp} {a k : Nat} {v : Int64} (ha : y_okV nn (y_vr a)) : c_H nn (y_sJ h a k v) = z_sJ (c_H nn h) (c_t a) k v := by
  refine Prod.ext rfl (Prod.ext rfl (Prod.ext rfl ?_))
  funext b j
  show id (z_row h.2.2 a (z_up (h.2.2 a) k v) (c_u b) j) = _
  rw [c_row ha h.2.2 _ id b j]
  show _ = z_row (fun b k => h.2.2 (c_u b) k) (c_t a) (z_up (fun k => h.2.2 (c_u (c_t a)) k) k v) b j
  rw [c_ut ha]
  rfl
theorem c_sF {nn : Nat} {h : y_Hp} {a k : Nat} {v : Nat} (ha : y_okV nn (y_vr a)) (hd : z_dy (z_kd a).1 k = true) : c_H nn (y_sF h a k v) = z_sF (c_H nn h) (c_t a) k (c_t v) := by
  have key : ∀ b j, z_cF (y_sF h a k v) b j = z_row (z_cF h) a (z_up (z_cF h a) k v) b j := by
    intro b j
    by_cases e : b = a
    · subst e
      rw [z_row_eq]
      by_cases e2 : j = k
      · subst e2
        have e3 : (y_sF h b j v).2.1 b j = v := by
          show z_row h.2.1 b (z_up (h.2.1 b) j v) b j = v
          rw [z_row_eq]
          exact if_pos rfl
        unfold z_cF
        rw [hd, e3]
        exact (if_pos rfl).symm
      · have e3 : (y_sF h b k v).2.1 b j = h.2.1 b j := by
          show z_row h.2.1 b (z_up (h.2.1 b) k v) b j = _
          rw [z_row_eq]
          exact if_neg e2
        have e4 : z_up (z_cF h b) k v j = z_cF h b j := if_neg e2
        rw [e4]
        unfold z_cF
        rw [e3]
    · have e3 : (y_sF h a k v).2.1 b j = h.2.1 b j := by
        show z_row h.2.1 a (z_up (h.2.1 a) k v) b j = _
        rw [z_row_ne e]
      rw [z_row_ne e]
      unfold z_cF
      rw [e3]
  refine Prod.ext rfl (Prod.ext rfl (Prod.ext ?_ rfl))
  funext b j
  show c_t (z_cF (y_sF h a k v) (c_u b) j) = _
  rw [key, c_row ha (z_cF h) _ c_t b j]
  show _ = z_row (fun b k => c_t (z_cF h (c_u b) k)) (c_t a) (z_up (fun k => c_t (z_cF h (c_u (c_t a)) k)) k (c_t v)) b j
  rw [c_ut ha]
  congr 1
  funext q
  unfold z_up
  split <;> rfl
theorem c_cpI {nn : Nat} {h : y_Hp} {a sp b dp n : Nat} (ha : y_okV nn (y_vr a)) (hb : y_okV nn (y_vr b)) : c_H nn (y_cpI h a sp b dp n) = z_cpI (c_H nn h) (c_t a) sp (c_t b) dp n := by
  refine Prod.ext rfl (Prod.ext ?_ rfl)
  funext c j
  show Int32.ofInt (z_row h.1 b (y_cp (h.1 a) (h.1 b) sp dp n) (c_u c) j) = _
  rw [c_row hb h.1 _ Int32.ofInt c j]
  show _ = z_row (fun b k => Int32.ofInt (h.1 (c_u b) k)) (c_t b) (z_cp (fun k => Int32.ofInt (h.1 (c_u (c_t a)) k)) (fun k => Int32.ofInt (h.1 (c_u (c_t b)) k)) sp dp n) c j
  rw [c_ut ha, c_ut hb]
  congr 1
  funext q
  unfold y_cp z_cp
  split <;> rfl
theorem y_okH_sI {nn : Nat} {h : y_Hp} {a k : Nat} {v : Int} (hh : y_okH nn h) (hv : y_inr v) : y_okH nn (y_sI h a k v) := by
  refine ⟨fun b j => ?_, hh.2⟩
  show y_inr (z_row h.1 a (z_up (h.1 a) k v) b j)
  unfold z_row z_up
  split
  · dsimp only
    split
    · exact hv
    · exact hh.1 _ _
  · exact hh.1 _ _
theorem y_okH_sF {nn : Nat} {h : y_Hp} {a k : Nat} {v : Nat} (hh : y_okH nn h) (hv : y_okV nn (y_vr v)) : y_okH nn (y_sF h a k v) := by
  refine ⟨hh.1, fun b j => ?_⟩
  show y_ng nn (z_row h.2.1 a (z_up (h.2.1 a) k v) b j) = true
  unfold z_row z_up
  split
  · dsimp only
    split
    · exact hv
    · exact hh.2 _ _
  · exact hh.2 _ _
theorem y_okH_cpI {nn : Nat} {h : y_Hp} {a sp b dp n : Nat} (hh : y_okH nn h) : y_okH nn (y_cpI h a sp b dp n) := by
  refine ⟨fun c j => ?_, hh.2⟩
  show y_inr (z_row h.1 b (y_cp (h.1 a) (h.1 b) sp dp n) c j)
  unfold z_row y_cp
  split
  · dsimp only
    split
    · exact hh.1 _ _
    · exact hh.1 _ _
  · exact hh.1 _ _
/-- constants within their types -/
def y_cok (ins : Jvm.ClassFile.Instr) (x y : Nat) : Bool := match ins with
  | .iconst n => z_i32 n
  | .bipush n => decide (-128 ≤ n) && decide (n < 128)
  | .sipush n => decide (-32768 ≤ n) && decide (n < 32768)
  | .ldc _ => z_i32 (z_sn x y)
  | .tableswitch _ lo _ os => (z_tp lo os.toList).all (fun q => z_i32 q.1)
  | .lookupswitch _ ps => ps.toList.all (fun q => z_i32 q.1)
  | _ => true
theorem y_i32 {v : Int} (h : z_i32 v = true) : y_inr v := by
  unfold z_i32 at h
  unfold y_inr
  simpa using h
theorem y_sw_c {T : z_O → Prop} {K : Nat → y_O} {K' : Nat → z_O} {pc : Nat} {x d : Int} {r : y_R} (hx : y_inr x) (hK : ∀ p, K p = some r → T (K' p)) : ∀ {l : List (Int × Int)}, l.all (fun q => z_i32 q.1) = true → y_sw K pc x d l = some r → T (z_sw K' pc (Int32.ofInt x) d l)
  | [], _, h => hK _ h
  | q :: t, ha, h => by
    rw [List.all_cons, Bool.and_eq_true] at ha
    unfold y_sw at h
    unfold z_sw
    by_cases e : x = q.1
    · rw [if_pos e] at h
      rw [if_pos (by rw [e])]
      exact hK _ h
    · rw [if_neg e] at h
      rw [if_neg (fun g => e ((y_eq_c hx (y_i32 ha.1)).mp g))]
      exact y_sw_c hx hK ha.2 h
section SIM
variable {K : y_K} {K' : z_K} {ins : Jvm.ClassFile.Instr} {x y z pc : Nat} {ls : y_Ls} {st : List y_V} {h : y_Hp} {r : y_R} {sc : z_Sc} {T : z_O → Prop} {nn : Nat}
theorem y_sim0 (hls : y_okL nn ls) (hst : y_okS nn st) (hh : y_okH nn h) (hc : y_cok ins x y = true) (hr : y_i0 K ins x y pc ls st h = some r) (hK : ∀ pc' ls' st' h', y_okL nn ls' → y_okS nn st' → y_okH nn h' → K pc' ls' st' h' = some r → T (K' pc' (c_Ls ls') (st'.map c_V) (c_H nn h'))) : T (z_i0 K' ins x y pc (c_Ls ls) (st.map c_V) (c_H nn h)) := by
  unfold y_i0 at hr
  split at hr
  · obtain ⟨v, h1, h2⟩ := y_ldi_some.mp hr
    show T (z_ldi (c_Ls ls) _ _)
    rw [z_ldi_c h1]
    exact hK _ _ _ _ hls (y_okS_cons.mpr ⟨hls _ _ h1, hst⟩) hh h2
  · obtain ⟨v, h1, h2⟩ := y_ldi_some.mp hr
    show T (z_ldi (c_Ls ls) _ _)
    rw [z_ldi_c h1]
    exact hK _ _ _ _ hls (y_okS_cons.mpr ⟨hls _ _ h1, hst⟩) hh h2
  · obtain ⟨v, h1, h2⟩ := y_ldr_some.mp hr
    show T (z_ldr (c_Ls ls) _ _)
    rw [z_ldr_c h1]
    exact hK _ _ _ _ hls (y_okS_cons.mpr ⟨hls _ _ h1, hst⟩) hh h2
  · obtain ⟨v, h1, h2⟩ := y_ldr_some.mp hr
    show T (z_ldr (c_Ls ls) _ _)
    rw [z_ldr_c h1]
    exact hK _ _ _ _ hls (y_okS_cons.mpr ⟨hls _ _ h1, hst⟩) hh h2
  · obtain ⟨v, h1, h2⟩ := y_ldl_some.mp hr
    show T (z_ldl (c_Ls ls) _ _)
    rw [z_ldl_c h1]
    exact hK _ _ _ _ hls (y_okS_cons.mpr ⟨hls _ _ h1, hst⟩) hh h2
  · obtain ⟨v, t, rfl, h2⟩ := y_pi_some.mp hr
    obtain ⟨h1, h3⟩ := y_sg_some.mp h2
    have hs := y_okS_cons.mp hst
    show T (z_sg (z_sk (c_Ls ls) _) (K' _ ((c_Ls ls).set _ (Option.map c_V (some (y_vi v)))) _ _))
    rw [z_sk_c, h1, c_Ls_set]
    exact hK _ _ _ _ (y_okL_set hls (fun w e => by cases e; exact hs.1)) hs.2 hh h3
  · obtain ⟨v, t, rfl, h2⟩ := y_pi_some.mp hr
    obtain ⟨h1, h3⟩ := y_sg_some.mp h2
    have hs := y_okS_cons.mp hst
    show T (z_sg (z_sk (c_Ls ls) _) (K' _ ((c_Ls ls).set _ (Option.map c_V (some (y_vi v)))) _ _))
    rw [z_sk_c, h1, c_Ls_set]
    exact hK _ _ _ _ (y_okL_set hls (fun w e => by cases e; exact hs.1)) hs.2 hh h3
  · obtain ⟨v, t, rfl, h2⟩ := y_pr_some.mp hr
    obtain ⟨h1, h3⟩ := y_sg_some.mp h2
    have hs := y_okS_cons.mp hst
    show T (z_sg (z_sk (c_Ls ls) _) (K' _ ((c_Ls ls).set _ (Option.map c_V (some (y_vr v)))) _ _))
    rw [z_sk_c, h1, c_Ls_set]
    exact hK _ _ _ _ (y_okL_set hls (fun w e => by cases e; exact hs.1)) hs.2 hh h3
  · obtain ⟨v, t, rfl, h2⟩ := y_pr_some.mp hr
    obtain ⟨h1, h3⟩ := y_sg_some.mp h2
    have hs := y_okS_cons.mp hst
    show T (z_sg (z_sk (c_Ls ls) _) (K' _ ((c_Ls ls).set _ (Option.map c_V (some (y_vr v)))) _ _))
    rw [z_sk_c, h1, c_Ls_set]
    exact hK _ _ _ _ (y_okL_set hls (fun w e => by cases e; exact hs.1)) hs.2 hh h3
  · obtain ⟨v, t, rfl, h2⟩ := y_pl_some.mp hr
    obtain ⟨h1, h3⟩ := y_sg_some.mp h2
    have hs := y_okS_cons.mp hst
    rename_i k
    show T (z_sg (z_sk (c_Ls ls) _ && Nat.blt (k.val + 1) (c_Ls ls).length) (K' _ (((c_Ls ls).set _ (Option.map c_V (some (y_vl v)))).set _ (Option.map c_V none)) _ _))
    have el : (c_Ls ls).length = ls.length := List.length_map _
    rw [z_sk_c, el, h1, c_Ls_set, c_Ls_set]
    exact hK _ _ _ _ (y_okL_set (y_okL_set hls (fun w e => by cases e; exact hs.1)) (fun w e => by cases e)) hs.2 hh h3
  · obtain ⟨v, h1, h2⟩ := y_ldi_some.mp hr
    obtain ⟨h3, h4⟩ := y_sg_some.mp h2
    obtain ⟨h5, h6⟩ := y_rg_some.mp h4
    rename_i k n
    show T (z_ldi (c_Ls ls) _ _)
    rw [z_ldi_c h1, z_sk_c, h3]
    have e : Int32.ofInt v + Int32.ofInt n = Int32.ofInt (v + n) := (Int32.ofInt_add v n).symm
    rw [e]
    show T (K' _ ((c_Ls ls).set _ (Option.map c_V (some (y_vi (v + n))))) _ _)
    rw [c_Ls_set]
    exact hK _ _ _ _ (y_okL_set hls (fun w e => by cases e; exact h5)) hst hh h6
  · rename_i n
    exact hK _ ls (y_vi n :: st) _ hls (y_okS_cons.mpr ⟨y_i32 hc, hst⟩) hh hr
  · rename_i n
    have hn : -128 ≤ n ∧ n < 128 := by unfold y_cok at hc; simpa using hc
    have e : (Int8.ofInt n).toInt32 = Int32.ofInt n := by
      have h8 : (Int8.ofInt n).toInt = n := by
        rw [Int8.toInt_ofInt]
        have e9 : Int8.size = 256 := rfl
        exact Int.bmod_eq_of_le (by omega) (by omega)
      rw [← y_ofto (Int8.ofInt n).toInt32, Int8.toInt_toInt32, h8]
    show T (K' _ _ (z_vi (Int8.ofInt n).toInt32 :: _) _)
    rw [e]
    exact hK _ _ _ _ hls (y_okS_cons.mpr ⟨by show y_inr n; unfold y_inr; omega, hst⟩) hh hr
  · rename_i n
    have hn : -32768 ≤ n ∧ n < 32768 := by unfold y_cok at hc; simpa using hc
    have e : (Int16.ofInt n).toInt32 = Int32.ofInt n := by
      have h8 : (Int16.ofInt n).toInt = n := by
        rw [Int16.toInt_ofInt]
        have e9 : Int16.size = 65536 := rfl
        exact Int.bmod_eq_of_le (by omega) (by omega)
      rw [← y_ofto (Int16.ofInt n).toInt32, Int16.toInt_toInt32, h8]
    show T (K' _ _ (z_vi (Int16.ofInt n).toInt32 :: _) _)
    rw [e]
    exact hK _ _ _ _ hls (y_okS_cons.mpr ⟨by show y_inr n; unfold y_inr; omega, hst⟩) hh hr
  · rename_i n
    exact hK _ ls (y_vl (Int64.ofNat n.val) :: st) _ hls (y_okS_cons.mpr ⟨trivial, hst⟩) hh hr
  · exact hK _ ls (y_vi (z_sn x y) :: st) _ hls (y_okS_cons.mpr ⟨y_i32 hc, hst⟩) hh hr
  · exact hK _ ls (y_vl (Int64.ofInt (z_sn x y)) :: st) _ hls (y_okS_cons.mpr ⟨trivial, hst⟩) hh hr
  · split at hr
    · rename_i v t
      obtain ⟨h1, h2⟩ := y_sg_some.mp hr
      have hs := y_okS_cons.mp hst
      show T (z_sg (Nat.beq (z_cat (c_V v)) 1) _)
      rw [z_cat_c, h1]
      exact hK _ _ _ _ hls hs.2 hh h2
    · cases hr
  · split at hr
    · rename_i v t
      obtain ⟨h1, h2⟩ := y_sg_some.mp hr
      have hs := y_okS_cons.mp hst
      show T (z_sg (Nat.beq (z_cat (c_V v)) 1) _)
      rw [z_cat_c, h1]
      exact hK _ (ls) (v :: v :: t) _ hls (y_okS_cons.mpr ⟨hs.1, hst⟩) hh h2
    · cases hr
  · split at hr
    · rename_i v t
      have hs := y_okS_cons.mp hst
      exact hK _ (ls) (y_vl v :: y_vl v :: t) _ hls (y_okS_cons.mpr ⟨hs.1, hst⟩) hh hr
    · rename_i v w t hnl
      obtain ⟨h1, h2⟩ := y_sg_some.mp hr
      have hs := y_okS_cons.mp hst
      have hs2 := y_okS_cons.mp hs.2
      have h9 := hK _ (ls) (v :: w :: v :: w :: t) _ hls (y_okS_cons.mpr ⟨hs.1, y_okS_cons.mpr ⟨hs2.1, hst⟩⟩) hh h2
      rcases v with v | v | v
      · show T (z_sg (Nat.beq 1 1 && Nat.beq (z_cat (c_V w)) 1) _)
        rw [z_cat_c]
        have h1 : (Nat.beq 1 1 && Nat.beq (y_cat w) 1) = true := h1
        rw [h1]
        exact h9
      · show T (z_sg (Nat.beq 1 1 && Nat.beq (z_cat (c_V w)) 1) _)
        rw [z_cat_c]
        have h1 : (Nat.beq 1 1 && Nat.beq (y_cat w) 1) = true := h1
        rw [h1]
        exact h9
      · first | exact (hnl v rfl).elim | exact (hnl v (w :: t) rfl rfl).elim | exact (hnl _ _ rfl).elim
    · cases hr
  · cases hr
end SIM
end
section
/-! the other groups, runs, calls -/
theorem y_okS_sub {nn : Nat} {st t : List y_V} (h : y_okS nn st) (g : ∀ v ∈ t, v ∈ st) : y_okS nn t := fun v hv => h v (g v hv)
theorem y_div_c {v w : Int} (hv : y_inr v) (hw : y_inr w) (hd : y_inr (v.tdiv w)) : Int32.ofInt v / Int32.ofInt w = Int32.ofInt (v.tdiv w) := by
  rw [← y_ofto (Int32.ofInt v / Int32.ofInt w), Int32.toInt_div, y_toInt hv, y_toInt hw]
  congr 1
  exact Int.bmod_eq_of_le (by unfold y_inr at hd; omega) (by unfold y_inr at hd; omega)
section SIM
variable {K : y_K} {K' : z_K} {C : y_C} {C' : z_C} {ins : Jvm.ClassFile.Instr} {x y z pc : Nat} {ls : y_Ls} {st : List y_V} {h : y_Hp} {r : y_R} {sc : z_Sc} {T : z_O → Prop} {nn : Nat}
theorem y_sim1 (hls : y_okL nn ls) (hst : y_okS nn st) (hh : y_okH nn h) (hr : y_i1 K ins pc ls st h = some r) (hK : ∀ pc' ls' st' h', y_okL nn ls' → y_okS nn st' → y_okH nn h' → K pc' ls' st' h' = some r → T (K' pc' (c_Ls ls') (st'.map c_V) (c_H nn h'))) : T (z_i1 K' ins pc (c_Ls ls) (st.map c_V) (c_H nn h)) := by
  unfold y_i1 at hr
  split at hr
  case h_1 =>
    obtain ⟨w, t, rfl, h2⟩ := y_pi_some.mp hr
    obtain ⟨v, t2, rfl, h3⟩ := y_pi_some.mp h2
    obtain ⟨h4, h5⟩ := y_rg_some.mp h3
    obtain ⟨s1, s2⟩ := y_okS_cons.mp hst
    obtain ⟨s3, s4⟩ := y_okS_cons.mp s2
    show T (K' _ _ (z_vi (Int32.ofInt v + Int32.ofInt w) :: _) _)
    rw [← Int32.ofInt_add]
    exact hK _ ls (y_vi (v + w) :: t2) _ hls (y_okS_cons.mpr ⟨h4, s4⟩) hh h5
  case h_2 =>
    obtain ⟨w, t, rfl, h2⟩ := y_pi_some.mp hr
    obtain ⟨v, t2, rfl, h3⟩ := y_pi_some.mp h2
    obtain ⟨h4, h5⟩ := y_rg_some.mp h3
    obtain ⟨s1, s2⟩ := y_okS_cons.mp hst
    obtain ⟨s3, s4⟩ := y_okS_cons.mp s2
    show T (K' _ _ (z_vi (Int32.ofInt v - Int32.ofInt w) :: _) _)
    rw [← Int32.ofInt_sub]
    exact hK _ ls (y_vi (v - w) :: t2) _ hls (y_okS_cons.mpr ⟨h4, s4⟩) hh h5
  case h_3 =>
    obtain ⟨w, t, rfl, h2⟩ := y_pi_some.mp hr
    obtain ⟨v, t2, rfl, h3⟩ := y_pi_some.mp h2
    obtain ⟨h4, h5⟩ := y_rg_some.mp h3
    obtain ⟨s1, s2⟩ := y_okS_cons.mp hst
    obtain ⟨s3, s4⟩ := y_okS_cons.mp s2
    show T (K' _ _ (z_vi (Int32.ofInt v * Int32.ofInt w) :: _) _)
    rw [← Int32.ofInt_mul]
    exact hK _ ls (y_vi (v * w) :: t2) _ hls (y_okS_cons.mpr ⟨h4, s4⟩) hh h5
  case h_9 =>
    obtain ⟨w, t, rfl, h2⟩ := y_pi_some.mp hr
    obtain ⟨v, t2, rfl, h3⟩ := y_pi_some.mp h2
    obtain ⟨h4, h5⟩ := y_nz_some.mp h3
    obtain ⟨h6, h7⟩ := y_rg_some.mp h5
    obtain ⟨s1, s2⟩ := y_okS_cons.mp hst
    obtain ⟨s3, s4⟩ := y_okS_cons.mp s2
    have hnz : ¬ Int32.ofInt w = 0 := fun q => h4 ((y_eq_c (w := 0) s1 (by unfold y_inr; omega)).mp q)
    show T (z_gd (!(decide (Int32.ofInt w = 0))) (K' _ _ (z_vi (Int32.ofInt v / Int32.ofInt w) :: _) _))
    rw [decide_eq_false hnz, y_div_c s3 s1 h6]
    exact hK _ ls (y_vi (v.tdiv w) :: t2) _ hls (y_okS_cons.mpr ⟨h6, s4⟩) hh h7
  case h_10 =>
    obtain ⟨w, t, rfl, h2⟩ := y_pi_some.mp hr
    obtain ⟨v, t2, rfl, h3⟩ := y_pi_some.mp h2
    obtain ⟨h4, h5⟩ := y_nz_some.mp h3
    obtain ⟨h6, h7⟩ := y_rg_some.mp h5
    obtain ⟨h8, h9⟩ := y_rg_some.mp h7
    obtain ⟨s1, s2⟩ := y_okS_cons.mp hst
    obtain ⟨s3, s4⟩ := y_okS_cons.mp s2
    have hnz : ¬ Int32.ofInt w = 0 := fun q => h4 ((y_eq_c (w := 0) s1 (by unfold y_inr; omega)).mp q)
    show T (z_gd (!(decide (Int32.ofInt w = 0))) (K' _ _ (z_vi (Int32.ofInt v - Int32.ofInt v / Int32.ofInt w * Int32.ofInt w) :: _) _))
    rw [decide_eq_false hnz, y_div_c s3 s1 h6, ← Int32.ofInt_mul, ← Int32.ofInt_sub]
    exact hK _ ls (y_vi (v - v.tdiv w * w) :: t2) _ hls (y_okS_cons.mpr ⟨h8, s4⟩) hh h9
  case h_11 =>
    obtain ⟨v, t, rfl, h2⟩ := y_pi_some.mp hr
    obtain ⟨h3, h4⟩ := y_rg_some.mp h2
    obtain ⟨s1, s2⟩ := y_okS_cons.mp hst
    show T (K' _ _ (z_vi (-Int32.ofInt v) :: _) _)
    rw [← Int32.ofInt_neg]
    exact hK _ ls (y_vi (-v) :: t) _ hls (y_okS_cons.mpr ⟨h3, s2⟩) hh h4
  case h_19 =>
    obtain ⟨w, t, rfl, h2⟩ := y_pl_some.mp hr
    obtain ⟨v, t2, rfl, h3⟩ := y_pl_some.mp h2
    obtain ⟨h4, h5⟩ := y_nl_some.mp h3
    obtain ⟨s1, s2⟩ := y_okS_cons.mp hst
    obtain ⟨s3, s4⟩ := y_okS_cons.mp s2
    show T (z_gd (!(decide (w = 0))) _)
    rw [decide_eq_false h4]
    exact hK _ ls (y_vl (v / w) :: t2) _ hls (y_okS_cons.mpr ⟨trivial, s4⟩) hh h5
  all_goals first
    | (cases hr; done)
    | (obtain ⟨w, t, rfl, h2⟩ := y_pi_some.mp hr
       obtain ⟨v, t2, rfl, h3⟩ := y_pi_some.mp h2
       obtain ⟨s1, s2⟩ := y_okS_cons.mp hst
       obtain ⟨s3, s4⟩ := y_okS_cons.mp s2
       first
       | exact (congrArg (fun q => T (K' (pc + 1) (c_Ls ls) (z_vi q :: t2.map c_V) (c_H nn h))) (y_ofto (Int32.ofInt v &&& Int32.ofInt w))).mp (hK _ ls (y_vi (y_and v w) :: t2) _ hls (y_okS_cons.mpr ⟨y_inr_to _, s4⟩) hh h3)
       | exact (congrArg (fun q => T (K' (pc + 1) (c_Ls ls) (z_vi q :: t2.map c_V) (c_H nn h))) (y_ofto (Int32.ofInt v ||| Int32.ofInt w))).mp (hK _ ls (y_vi (y_or v w) :: t2) _ hls (y_okS_cons.mpr ⟨y_inr_to _, s4⟩) hh h3)
       | exact (congrArg (fun q => T (K' (pc + 1) (c_Ls ls) (z_vi q :: t2.map c_V) (c_H nn h))) (y_ofto (Int32.ofInt v ^^^ Int32.ofInt w))).mp (hK _ ls (y_vi (y_xor v w) :: t2) _ hls (y_okS_cons.mpr ⟨y_inr_to _, s4⟩) hh h3)
       | exact (congrArg (fun q => T (K' (pc + 1) (c_Ls ls) (z_vi q :: t2.map c_V) (c_H nn h))) (y_ofto (Int32.ofInt v <<< (Int32.ofInt w &&& 31)))).mp (hK _ ls (y_vi (y_shl v w) :: t2) _ hls (y_okS_cons.mpr ⟨y_inr_to _, s4⟩) hh h3)
       | exact (congrArg (fun q => T (K' (pc + 1) (c_Ls ls) (z_vi q :: t2.map c_V) (c_H nn h))) (y_ofto (Int32.ofInt v >>> (Int32.ofInt w &&& 31)))).mp (hK _ ls (y_vi (y_shr v w) :: t2) _ hls (y_okS_cons.mpr ⟨y_inr_to _, s4⟩) hh h3))
    | (obtain ⟨w, t, rfl, h2⟩ := y_pl_some.mp hr
       obtain ⟨v, t2, rfl, h3⟩ := y_pl_some.mp h2
       obtain ⟨s1, s2⟩ := y_okS_cons.mp hst
       obtain ⟨s3, s4⟩ := y_okS_cons.mp s2
       first
       | exact hK _ ls (y_vl (v + w) :: t2) _ hls (y_okS_cons.mpr ⟨trivial, s4⟩) hh h3
       | exact hK _ ls (y_vl (v * w) :: t2) _ hls (y_okS_cons.mpr ⟨trivial, s4⟩) hh h3
       | exact hK _ ls (y_vl (v &&& w) :: t2) _ hls (y_okS_cons.mpr ⟨trivial, s4⟩) hh h3
       | exact hK _ ls (y_vl (v ||| w) :: t2) _ hls (y_okS_cons.mpr ⟨trivial, s4⟩) hh h3
       | exact (congrArg (fun q => T (K' (pc + 1) (c_Ls ls) (z_vi q :: t2.map c_V) (c_H nn h))) (y_ofto (lg_cmp v w))).mp (hK _ ls (y_vi (y_lcmp v w) :: t2) _ hls (y_okS_cons.mpr ⟨y_inr_to _, s4⟩) hh h3))
    | (obtain ⟨w, t, rfl, h2⟩ := y_pi_some.mp hr
       obtain ⟨v, t2, rfl, h3⟩ := y_pl_some.mp h2
       obtain ⟨s1, s2⟩ := y_okS_cons.mp hst
       obtain ⟨s3, s4⟩ := y_okS_cons.mp s2
       first
       | exact hK _ ls (y_vl (y_lshl v w) :: t2) _ hls (y_okS_cons.mpr ⟨trivial, s4⟩) hh h3
       | exact hK _ ls (y_vl (y_lshr v w) :: t2) _ hls (y_okS_cons.mpr ⟨trivial, s4⟩) hh h3)
    | (obtain ⟨v, t, rfl, h2⟩ := y_pi_some.mp hr
       obtain ⟨s1, s2⟩ := y_okS_cons.mp hst
       first
       | exact hK _ ls (y_vl (y_i2l v) :: t) _ hls (y_okS_cons.mpr ⟨trivial, s2⟩) hh h2
       | exact (congrArg (fun q => T (K' (pc + 1) (c_Ls ls) (z_vi q :: t.map c_V) (c_H nn h))) (y_ofto ((Int32.ofInt v).toInt8.toInt32))).mp (hK _ ls (y_vi (y_i2b v) :: t) _ hls (y_okS_cons.mpr ⟨y_inr_to _, s2⟩) hh h2))
    | (obtain ⟨v, t, rfl, h2⟩ := y_pl_some.mp hr
       obtain ⟨s1, s2⟩ := y_okS_cons.mp hst
       exact (congrArg (fun q => T (K' (pc + 1) (c_Ls ls) (z_vi q :: t.map c_V) (c_H nn h))) (y_ofto v.toInt32)).mp (hK _ ls (y_vi (y_l2i v) :: t) _ hls (y_okS_cons.mpr ⟨y_inr_to _, s2⟩) hh h2))
theorem y_br_c {c : Jvm.ClassFile.Cond} {v w : Int} (hv : y_inr v) (hw : y_inr w) {A B : y_O} {A' B' : z_O} (hA : A = some r → T A') (hB : B = some r → T B') (h : y_br c v w A B = some r) : T (z_br c (Int32.ofInt v) (Int32.ofInt w) A' B') := by
  have e1 := y_eq_c hv hw
  have e2 := y_lt_c hv hw
  have e3 := y_lt_c hw hv
  unfold y_br at h
  unfold z_br
  cases c
  · by_cases q : v = w
    · simp only [if_pos q] at h; simp only [if_pos (e1.mpr q)]; exact hA h
    · simp only [if_neg q] at h; simp only [if_neg (fun g => q (e1.mp g))]; exact hB h
  · by_cases q : v = w
    · simp only [if_pos q] at h; simp only [if_pos (e1.mpr q)]; exact hB h
    · simp only [if_neg q] at h; simp only [if_neg (fun g => q (e1.mp g))]; exact hA h
  · by_cases q : v < w
    · simp only [if_pos q] at h; simp only [if_pos (e2.mpr q)]; exact hA h
    · simp only [if_neg q] at h; simp only [if_neg (fun g => q (e2.mp g))]; exact hB h
  · by_cases q : v < w
    · simp only [if_pos q] at h; simp only [if_pos (e2.mpr q)]; exact hB h
    · simp only [if_neg q] at h; simp only [if_neg (fun g => q (e2.mp g))]; exact hA h
  · by_cases q : w < v
    · simp only [if_pos q] at h; simp only [if_pos (e3.mpr q)]; exact hA h
    · simp only [if_neg q] at h; simp only [if_neg (fun g => q (e3.mp g))]; exact hB h
  · by_cases q : w < v
    · simp only [if_pos q] at h; simp only [if_pos (e3.mpr q)]; exact hB h
    · simp only [if_neg q] at h; simp only [if_neg (fun g => q (e3.mp g))]; exact hA h
theorem y_sim2 (hls : y_okL nn ls) (hst : y_okS nn st) (hh : y_okH nn h) (hc : y_cok ins x y = true) (hR : y_okR nn r → T (some (c_R nn r))) (hr : y_i2 K ins z pc ls st h = some r) (hK : ∀ pc' ls' st' h', y_okL nn ls' → y_okS nn st' → y_okH nn h' → K pc' ls' st' h' = some r → T (K' pc' (c_Ls ls') (st'.map c_V) (c_H nn h'))) : T (z_i2 K' ins z pc (c_Ls ls) (st.map c_V) (c_H nn h)) := by
  unfold y_i2 at hr
  split at hr
  · obtain ⟨w, t, rfl, h2⟩ := y_pi_some.mp hr
    obtain ⟨v, t2, rfl, h3⟩ := y_pi_some.mp h2
    obtain ⟨s1, s2⟩ := y_okS_cons.mp hst
    obtain ⟨s3, s4⟩ := y_okS_cons.mp s2
    exact y_br_c s3 s1 (hK _ _ _ _ hls s4 hh) (hK _ _ _ _ hls s4 hh) h3
  · obtain ⟨v, t2, rfl, h3⟩ := y_pi_some.mp hr
    obtain ⟨s3, s4⟩ := y_okS_cons.mp hst
    exact y_br_c (w := 0) s3 (by unfold y_inr; omega) (hK _ _ _ _ hls s4 hh) (hK _ _ _ _ hls s4 hh) h3
  · exact hK _ _ _ _ hls hst hh hr
  · obtain ⟨v, t2, rfl, h3⟩ := y_pi_some.mp hr
    obtain ⟨s3, s4⟩ := y_okS_cons.mp hst
    exact y_sw_c s3 (fun p => hK p _ _ _ hls s4 hh) hc h3
  · obtain ⟨v, t2, rfl, h3⟩ := y_pi_some.mp hr
    obtain ⟨s3, s4⟩ := y_okS_cons.mp hst
    exact y_sw_c s3 (fun p => hK p _ _ _ hls s4 hh) hc h3
  · split at hr
    · rename_i v
      obtain ⟨s3, -⟩ := y_okS_cons.mp hst
      split at hr
      · obtain ⟨h1, h2⟩ := y_b1_some.mp hr
        cases h2
        have hq := hR ⟨fun w e => by cases e; exact s3, hh⟩
        have e : z_bo (Int32.ofInt v) = true := by rcases h1 with rfl | rfl <;> rfl
        show T (z_gd (z_bo (Int32.ofInt v)) _)
        rw [e]
        exact hq
      · rename_i hz
        cases hr
        have hq := hR ⟨fun w e => by cases e; exact s3, hh⟩
        show T (match z with
          | 3 => _
          | _ => _)
        split
        · exact absurd rfl hz
        · exact hq
    · cases hr
  · split at hr
    · cases hr
      exact hR ⟨fun w e => by cases e; trivial, hh⟩
    · cases hr
  · split at hr
    · cases hr
      exact hR ⟨fun w e => (by cases e), hh⟩
    · cases hr
  · cases hr
end SIM
end
section
/-! fields, rows, calls, runs -/
theorem y_okS_pi {nn : Nat} {v : y_V} {t : List y_V} (h : y_okS nn (v :: t)) : y_okS nn t := (y_okS_cons.mp h).2
theorem z_cF_of {h : y_Hp} {a k c : Nat} (hk : (z_kd a).1 = c) (hd : z_dy c k = false) : z_cF h a k = z_of c k a := by
  unfold z_cF
  rw [hk, hd]
section SIM
variable {K : y_K} {K' : z_K} {C : y_C} {C' : z_C} {ins : Jvm.ClassFile.Instr} {x y z pc len M : Nat} {ls : y_Ls} {st : List y_V} {h : y_Hp} {r : y_R} {sc : z_Sc} {T : z_O → Prop} {nn : Nat}
/-- where a reference leads that never changes: to a cell of the same side -/
def y_cls (a : Nat) : Bool := (List.range (z_kd a).2).all fun k => y_ng 186 (z_of (z_kd a).1 k a)
theorem y_cls_ok : ((List.range 236).all fun a => !(y_ng 186 a) || (Nat.blt 15 (z_kd a).1 || (Nat.beq (z_kd a).1 10 || (Nat.beq (z_kd a).1 11 || (Nat.beq (z_kd a).1 13 || y_cls a))))) = true := by decide +kernel
theorem y_ng_of {a k : Nat} (hn : nn = 186 ∨ nn = 188) (ha : y_okV nn (y_vr a)) (hx : (z_kd a).1 < 9 ∨ (z_kd a).1 = 14 ∨ (z_kd a).1 = 15) (hk : k < (z_kd a).2) : y_ng nn (z_of (z_kd a).1 k a) = true := by
  have h1 := y_ng_iff.mp (show y_ng nn a = true from ha)
  have hlt : a < 236 := by
    rcases Nat.lt_or_ge a 236 with q | q
    · exact q
    · exfalso
      have e : z_kd a = (10, 64) := by
        rcases (show a = 236 ∨ a = 237 ∨ a = 238 ∨ a = 239 by omega) with rfl | rfl | rfl | rfl <;> rfl
      rw [e] at hx
      rcases hx with q | q | q
      · exact absurd q (by decide)
      · cases q
      · cases q
  have h2 := List.all_eq_true.mp y_cls_ok a (List.mem_range.mpr hlt)
  have h3 : y_ng 186 a = true := y_ng_iff.mpr (by omega)
  rw [h3] at h2
  have hc : y_cls a = true := by
    rcases hx with q | q | q
    · have e1 : Nat.blt 15 (z_kd a).1 = false := by
        cases r : Nat.blt 15 (z_kd a).1
        · rfl
        · have := Nat.blt_eq.mp r; omega
      have e2 : ∀ t, 9 ≤ t → Nat.beq (z_kd a).1 t = false := fun t ht => by
        cases r : Nat.beq (z_kd a).1 t
        · rfl
        · have := z_beq r; omega
      rw [e1, e2 10 (by omega), e2 11 (by omega), e2 13 (by omega)] at h2
      exact h2
    · rw [q] at h2; exact h2
    · rw [q] at h2; exact h2
  have h4 := List.all_eq_true.mp hc k (List.mem_range.mpr hk)
  have h5 := y_ng_iff.mp h4
  exact y_ng_iff.mpr (by omega)
theorem y_gv_c {a : Nat} (ha : y_okV nn (y_vr a)) (hk : (z_kd a).1 = x) : z_gv (c_H nn h) (c_t a) y z = c_V (y_gv h a x y z) := by
  have eu := c_ut (show y_ng nn a = true from ha)
  match z with
  | 0 =>
    show z_vi (Int32.ofInt (h.1 (c_u (c_t a)) y)) = _
    rw [eu]; rfl
  | 1 =>
    show z_vr (c_t (z_cF h (c_u (c_t a)) y)) = c_V (match z_dy x y with
      | true => y_vr (y_F h a y)
      | false => y_vr (z_of x y a))
    rw [eu]
    unfold z_cF
    rw [hk]
    cases z_dy x y <;> rfl
  | 2 =>
    show z_vl (h.2.2 (c_u (c_t a)) y) = _
    rw [eu]; rfl
  | n + 3 =>
    show z_vi (Int32.ofInt (h.1 (c_u (c_t a)) y)) = _
    rw [eu]; rfl
theorem y_gv_ok {a : Nat} (hn : nn = 186 ∨ nn = 188) (ha : y_okV nn (y_vr a)) (hk : (z_kd a).1 = x) (hx : x < 9) (hy : y < (z_kd a).2) (hh : y_okH nn h) : y_okV nn (y_gv h a x y z) := by
  match z with
  | 0 => exact hh.1 _ _
  | 1 =>
    show y_okV nn (match z_dy x y with
      | true => y_vr (y_F h a y)
      | false => y_vr (z_of x y a))
    cases z_dy x y
    · have := y_ng_of (k := y) hn ha (Or.inl (by omega)) hy
      rw [hk] at this
      exact this
    · exact hh.2 _ _
  | 2 => trivial
  | n + 3 => exact hh.1 _ _
/-- an object has as many places as its class has fields -/
theorem z_kd_fn {a : Nat} (h : (z_kd a).1 < 8) : (z_kd a).2 = z_cN (z_kd a).1 := by
  have key : (z_kdl.all fun q => !(Nat.blt q.1 8) || Nat.beq q.2 (z_cN q.1)) = true := by decide +kernel
  unfold z_kd at h ⊢
  split at h
  · rename_i q hq
    have := List.all_eq_true.mp key q (List.mem_of_getElem? hq)
    have hb : Nat.blt q.1 8 = true := Nat.blt_eq.mpr h
    rw [hb] at this
    exact z_beq (by simpa using this)
  · exact absurd h (by decide)
theorem z_I_c {a k : Nat} (ha : y_okV nn (y_vr a)) : z_I (c_H nn h) (c_t a) k = Int32.ofInt (y_I h a k) := by
  show Int32.ofInt (h.1 (c_u (c_t a)) k) = _
  rw [c_ut ha]; rfl
theorem z_J_c {a k : Nat} (ha : y_okV nn (y_vr a)) : z_J (c_H nn h) (c_t a) k = y_J h a k := by
  show h.2.2 (c_u (c_t a)) k = _
  rw [c_ut ha]; rfl
theorem z_F_c {a k : Nat} (ha : y_okV nn (y_vr a)) : z_F (c_H nn h) (c_t a) k = c_t (z_cF h a k) := by
  show c_t (z_cF h (c_u (c_t a)) k) = _
  rw [c_ut ha]
theorem y_b1_c {v : Int} (h : v = 0 ∨ v = 1) : z_bo (Int32.ofInt v) = true := by rcases h with rfl | rfl <;> rfl
theorem y_sim3 (hok : z_sok M pc len 3 ins x y z = true) (hn : nn = 186 ∨ nn = 188) (hls : y_okL nn ls) (hst : y_okS nn st) (hh : y_okH nn h) (hr : y_i3 sc K ins x y z pc ls st h = some r) (hK : ∀ pc' ls' st' h', y_okL nn ls' → y_okS nn st' → y_okH nn h' → K pc' ls' st' h' = some r → T (K' pc' (c_Ls ls') (st'.map c_V) (c_H nn h'))) : T (z_i3 sc K' ins x y z pc (c_Ls ls) (st.map c_V) (c_H nn h)) := by
  unfold y_i3 at hr
  split at hr
  · -- getfield
    unfold z_sok at hok
    simp only [Bool.and_eq_true, Nat.blt_eq] at hok
    obtain ⟨⟨⟨⟨-, -⟩, k3⟩, k4⟩, -⟩ := hok
    obtain ⟨a, t, rfl, h2⟩ := y_pr_some.mp hr
    obtain ⟨g, h5⟩ := y_kt_some.mp h2
    have ha := (y_okS_cons.mp hst).1
    show T (z_gd (z_ob (c_H nn h) (c_t a) x) (K' _ _ (z_gv (c_H nn h) (c_t a) y z :: _) _))
    rw [y_ob_c hn ha g, y_gv_c ha g]
    exact hK _ ls (y_gv h a x y z :: t) _ hls (y_okS_cons.mpr ⟨y_gv_ok hn ha g (by omega) (by rw [z_kd_fn (by omega), g]; exact k4) hh, y_okS_pi hst⟩) hh h5
  · -- putfield
    unfold z_sok at hok
    simp only [Bool.and_eq_true, Nat.blt_eq] at hok
    obtain ⟨⟨⟨⟨⟨-, -⟩, k3⟩, -⟩, -⟩, -⟩ := hok
    split at hr
    · obtain ⟨v, t, rfl, h2⟩ := y_pi_some.mp hr
      obtain ⟨a, t2, rfl, h3⟩ := y_pr_some.mp h2
      obtain ⟨g, h5⟩ := y_kt_some.mp h3
      have ha := (y_okS_cons.mp (y_okS_pi hst)).1
      show T (z_gd (z_ob (c_H nn h) (c_t a) x) (K' _ _ _ (z_sI (c_H nn h) (c_t a) y (Int32.ofInt v))))
      rw [y_ob_c hn ha g, ← c_sI ha]
      exact hK _ _ _ _ hls (y_okS_pi (y_okS_pi hst)) (y_okH_sI hh (y_okS_cons.mp hst).1) h5
    · obtain ⟨v, t, rfl, h2⟩ := y_pr_some.mp hr
      obtain ⟨a, t2, rfl, h3⟩ := y_pr_some.mp h2
      obtain ⟨g, h4⟩ := y_kt_some.mp h3
      obtain ⟨g2, h5⟩ := y_sg_some.mp h4
      have ha := (y_okS_cons.mp (y_okS_pi hst)).1
      show T (z_gd (z_ob (c_H nn h) (c_t a) x) (K' _ _ _ (z_sF (c_H nn h) (c_t a) y (c_t v))))
      rw [y_ob_c hn ha g, ← c_sF ha (by rw [g]; exact g2)]
      exact hK _ _ _ _ hls (y_okS_pi (y_okS_pi hst)) (y_okH_sF hh (y_okS_cons.mp hst).1) h5
    · obtain ⟨v, t, rfl, h2⟩ := y_pl_some.mp hr
      obtain ⟨a, t2, rfl, h3⟩ := y_pr_some.mp h2
      obtain ⟨g, h5⟩ := y_kt_some.mp h3
      have ha := (y_okS_cons.mp (y_okS_pi hst)).1
      show T (z_gd (z_ob (c_H nn h) (c_t a) x) (K' _ _ _ (z_sJ (c_H nn h) (c_t a) y v)))
      rw [y_ob_c hn ha g, ← c_sJ ha]
      exact hK _ _ _ _ hls (y_okS_pi (y_okS_pi hst)) hh h5
    · rename_i z9 n0 n1 n2
      obtain ⟨v, t, rfl, h2⟩ := y_pi_some.mp hr
      obtain ⟨a, t2, rfl, h3⟩ := y_pr_some.mp h2
      obtain ⟨g, h4⟩ := y_kt_some.mp h3
      obtain ⟨g2, h5⟩ := y_b1_some.mp h4
      obtain ⟨q, rfl⟩ : ∃ q, z = q + 3 := by
        match z, n0, n1, n2 with
        | 0, n0, _, _ => exact absurd rfl n0
        | 1, _, n1, _ => exact absurd rfl n1
        | 2, _, _, n2 => exact absurd rfl n2
        | q + 3, _, _, _ => exact ⟨q, rfl⟩
      have ha := (y_okS_cons.mp (y_okS_pi hst)).1
      show T (z_gd (z_ob (c_H nn h) (c_t a) x && z_bo (Int32.ofInt v)) (K' _ _ _ (z_sI (c_H nn h) (c_t a) y (Int32.ofInt v))))
      rw [y_ob_c hn ha g, y_b1_c g2, ← c_sI ha]
      exact hK _ _ _ _ hls (y_okS_pi (y_okS_pi hst)) (y_okH_sI hh (y_okS_cons.mp hst).1) h5
  · -- iaload
    split at hr
    · obtain ⟨i, t, rfl, h2⟩ := y_pi_some.mp hr
      obtain ⟨a, t2, rfl, h3⟩ := y_pr_some.mp h2
      obtain ⟨g, h4⟩ := y_sg_some.mp h3
      obtain ⟨g2, h5⟩ := y_in_some.mp h4
      have ea := z_beq g
      subst ea
      have hi := (y_okS_cons.mp hst).1
      show T (z_gd (Nat.beq 1 1 && z_in (Int32.ofInt i) sc.1) (K' _ _ (z_vi (sc.2 (Int32.ofInt i).toNatClampNeg) :: _) _))
      have e1 : z_in (Int32.ofInt i) sc.1 = true := by
        unfold z_in
        have e2 : ¬ (Int32.ofInt i < 0) := fun q => by have := (y_lt0_c hi).mp q; omega
        rw [decide_eq_false e2, y_nat_c hi]
        exact Nat.blt_eq.mpr (by omega)
      rw [e1, y_nat_c hi]
      have h9 := hK _ ls (y_vi (sc.2 i.toNat).toInt :: t2) _ hls (y_okS_cons.mpr ⟨y_inr_to _, y_okS_pi (y_okS_pi hst)⟩) hh h5
      have e3 : (y_vi (sc.2 i.toNat).toInt :: t2).map c_V = z_vi (sc.2 i.toNat) :: t2.map c_V := by
        show z_vi (Int32.ofInt (sc.2 i.toNat).toInt) :: _ = _
        rw [y_ofto]
      rw [e3] at h9
      exact h9
    · rename_i hx1
      obtain ⟨i, t, rfl, h2⟩ := y_pi_some.mp hr
      obtain ⟨a, t2, rfl, h3⟩ := y_pr_some.mp h2
      obtain ⟨g, h4⟩ := y_kt_some.mp h3
      obtain ⟨g2, h5⟩ := y_in_some.mp h4
      have hi := (y_okS_cons.mp hst).1
      have ha := (y_okS_cons.mp (y_okS_pi hst)).1
      have h9 := hK _ ls (y_vi (y_I h a i.toNat) :: t2) _ hls (y_okS_cons.mpr ⟨hh.1 _ _, y_okS_pi (y_okS_pi hst)⟩) hh h5
      show T (match x with
        | 1 => _
        | _ => _)
      split
      · exact absurd rfl hx1
      · show T (z_gd (z_ar (c_H nn h) (c_t a) 10 (Int32.ofInt i)) (K' _ _ (z_vi (z_I (c_H nn h) (c_t a) (Int32.ofInt i).toNatClampNeg) :: _) _))
        rw [y_ar_c hn ha g hi g2, y_nat_c hi, z_I_c ha]
        exact h9
  · -- baload
    obtain ⟨i, t, rfl, h2⟩ := y_pi_some.mp hr
    obtain ⟨a, t2, rfl, h3⟩ := y_pr_some.mp h2
    obtain ⟨g, h4⟩ := y_kt_some.mp h3
    obtain ⟨g2, h5⟩ := y_in_some.mp h4
    have hi := (y_okS_cons.mp hst).1
    have ha := (y_okS_cons.mp (y_okS_pi hst)).1
    show T (z_gd (z_ar (c_H nn h) (c_t a) x (Int32.ofInt i)) (K' _ _ (z_vi (z_I (c_H nn h) (c_t a) (Int32.ofInt i).toNatClampNeg) :: _) _))
    rw [y_ar_c hn ha g hi g2, y_nat_c hi, z_I_c ha]
    exact hK _ ls (y_vi (y_I h a i.toNat) :: t2) _ hls (y_okS_cons.mpr ⟨hh.1 _ _, y_okS_pi (y_okS_pi hst)⟩) hh h5
  · -- laload
    obtain ⟨i, t, rfl, h2⟩ := y_pi_some.mp hr
    obtain ⟨a, t2, rfl, h3⟩ := y_pr_some.mp h2
    obtain ⟨g, h4⟩ := y_kt_some.mp h3
    obtain ⟨g2, h5⟩ := y_in_some.mp h4
    have hi := (y_okS_cons.mp hst).1
    have ha := (y_okS_cons.mp (y_okS_pi hst)).1
    show T (z_gd (z_ar (c_H nn h) (c_t a) 11 (Int32.ofInt i)) (K' _ _ (z_vl (z_J (c_H nn h) (c_t a) (Int32.ofInt i).toNatClampNeg) :: _) _))
    rw [y_ar_c hn ha g hi g2, y_nat_c hi, z_J_c ha]
    exact hK _ ls (y_vl (y_J h a i.toNat) :: t2) _ hls (y_okS_cons.mpr ⟨trivial, y_okS_pi (y_okS_pi hst)⟩) hh h5
  · -- aaload
    unfold z_sok at hok
    simp only [Bool.and_eq_true, Bool.or_eq_true] at hok
    have hx9 : x = 14 ∨ x = 15 := by rcases hok.2 with q | q <;> (have := z_beq q; omega)
    obtain ⟨i, t, rfl, h2⟩ := y_pi_some.mp hr
    obtain ⟨a, t2, rfl, h3⟩ := y_pr_some.mp h2
    obtain ⟨g, h4⟩ := y_kt_some.mp h3
    obtain ⟨g2, h5⟩ := y_in_some.mp h4
    have hi := (y_okS_cons.mp hst).1
    have ha := (y_okS_cons.mp (y_okS_pi hst)).1
    have hng := y_ng_of (k := i.toNat) hn ha (Or.inr (by rw [g]; exact hx9)) (by omega)
    rw [g] at hng
    show T (z_gd (z_ar (c_H nn h) (c_t a) x (Int32.ofInt i)) (K' _ _ (z_vr (z_F (c_H nn h) (c_t a) (Int32.ofInt i).toNatClampNeg) :: _) _))
    rw [y_ar_c hn ha g hi g2, y_nat_c hi, z_F_c ha, z_cF_of g (by rcases hx9 with rfl | rfl <;> rfl)]
    exact hK _ ls (y_vr (z_of x i.toNat a) :: t2) _ hls (y_okS_cons.mpr ⟨hng, y_okS_pi (y_okS_pi hst)⟩) hh h5
  · -- iastore
    obtain ⟨v, t0, rfl, h1⟩ := y_pi_some.mp hr
    obtain ⟨i, t, rfl, h2⟩ := y_pi_some.mp h1
    obtain ⟨a, t2, rfl, h3⟩ := y_pr_some.mp h2
    obtain ⟨g, h4⟩ := y_kt_some.mp h3
    obtain ⟨g2, h5⟩ := y_in_some.mp h4
    have hv := (y_okS_cons.mp hst).1
    have hi := (y_okS_cons.mp (y_okS_pi hst)).1
    have ha := (y_okS_cons.mp (y_okS_pi (y_okS_pi hst))).1
    show T (z_gd (z_ar (c_H nn h) (c_t a) 10 (Int32.ofInt i)) (K' _ _ _ (z_sI (c_H nn h) (c_t a) (Int32.ofInt i).toNatClampNeg (Int32.ofInt v))))
    rw [y_ar_c hn ha g hi g2, y_nat_c hi, ← c_sI ha]
    exact hK _ _ _ _ hls (y_okS_pi (y_okS_pi (y_okS_pi hst))) (y_okH_sI hh hv) h5
  · -- bastore
    split at hr
    · unfold z_sok at hok
      simp only [Bool.and_eq_true] at hok
      exact absurd (z_beq hok.2) (by decide)
    · rename_i hx1
      obtain ⟨v, t0, rfl, h1⟩ := y_pi_some.mp hr
      obtain ⟨i, t, rfl, h2⟩ := y_pi_some.mp h1
      obtain ⟨a, t2, rfl, h3⟩ := y_pr_some.mp h2
      obtain ⟨g, h4⟩ := y_kt_some.mp h3
      obtain ⟨g2, h4⟩ := y_in_some.mp h4
      obtain ⟨gb, h5⟩ := y_b1_some.mp h4
      have hv := (y_okS_cons.mp hst).1
      have hi := (y_okS_cons.mp (y_okS_pi hst)).1
      have ha := (y_okS_cons.mp (y_okS_pi (y_okS_pi hst))).1
      have h9 := hK _ _ _ _ hls (y_okS_pi (y_okS_pi (y_okS_pi hst))) (y_okH_sI hh hv) h5
      show T (match x with
        | 12 => _
        | _ => _)
      split
      · exact absurd rfl hx1
      · show T (z_gd (z_ar (c_H nn h) (c_t a) 13 (Int32.ofInt i) && z_bo (Int32.ofInt v)) (K' _ _ _ (z_sI (c_H nn h) (c_t a) (Int32.ofInt i).toNatClampNeg (Int32.ofInt v))))
        rw [y_ar_c hn ha g hi g2, y_b1_c gb, y_nat_c hi, ← c_sI ha]
        exact h9
  · -- lastore
    obtain ⟨v, t0, rfl, h1⟩ := y_pl_some.mp hr
    obtain ⟨i, t, rfl, h2⟩ := y_pi_some.mp h1
    obtain ⟨a, t2, rfl, h3⟩ := y_pr_some.mp h2
    obtain ⟨g, h4⟩ := y_kt_some.mp h3
    obtain ⟨g2, h5⟩ := y_in_some.mp h4
    have hi := (y_okS_cons.mp (y_okS_pi hst)).1
    have ha := (y_okS_cons.mp (y_okS_pi (y_okS_pi hst))).1
    show T (z_gd (z_ar (c_H nn h) (c_t a) 11 (Int32.ofInt i)) (K' _ _ _ (z_sJ (c_H nn h) (c_t a) (Int32.ofInt i).toNatClampNeg v)))
    rw [y_ar_c hn ha g hi g2, y_nat_c hi, ← c_sJ ha]
    exact hK _ _ _ _ hls (y_okS_pi (y_okS_pi (y_okS_pi hst))) hh h5
  · -- arraylength
    split at hr
    · obtain ⟨a, t2, rfl, h3⟩ := y_pr_some.mp hr
      obtain ⟨g, h4⟩ := y_sg_some.mp h3
      obtain ⟨g2, h5⟩ := y_rg_some.mp h4
      have ea := z_beq g
      subst ea
      exact hK _ ls (y_vi (sc.1 : Int) :: t2) _ hls (y_okS_cons.mpr ⟨g2, y_okS_pi hst⟩) hh h5
    · rename_i hx1
      have hx9 : x = 10 := by
        unfold z_sok at hok
        simp only [Bool.and_eq_true] at hok
        have := hok.2
        split at this
        · exact absurd rfl hx1
        · rfl
        · cases this
      subst hx9
      obtain ⟨a, t2, rfl, h3⟩ := y_pr_some.mp hr
      obtain ⟨g, h5⟩ := y_kt_some.mp h3
      have hle := z_kd_le a
      have ha := (y_okS_cons.mp hst).1
      have hob := y_ob_c hn (h := h) ha g
      show T (z_gd (z_ob (c_H nn h) (c_t a) 10) (K' _ _ (z_vi (Int32.ofNat (w_kd (c_t a)).2) :: _) _))
      rw [hob, c_t_kd ha]
      exact hK _ ls (y_vi ((z_kd a).2 : Int) :: t2) _ hls (y_okS_cons.mpr ⟨by show y_inr _; unfold y_inr; omega, y_okS_pi hst⟩) hh h5
  · cases hr
theorem y_rt_c {q : Nat} {r0 : y_R} {rest : List y_V} (ho : y_okR nn r0) (hls : y_okL nn ls) (hst : y_okS nn rest) (hK : ∀ pc' ls' st' h', y_okL nn ls' → y_okS nn st' → y_okH nn h' → K pc' ls' st' h' = some r → T (K' pc' (c_Ls ls') (st'.map c_V) (c_H nn h'))) (h : y_rt q (some r0) K pc ls rest = some r) : T (z_rt q (some (c_R nn r0)) K' pc (c_Ls ls) (rest.map c_V)) := by
  obtain ⟨v, h1⟩ := r0
  unfold y_rt at h
  unfold z_rt
  rcases q with _ | _ | q
  · rcases v with _ | v | w | v
    · cases (show (none : y_O) = some r from h)
    · exact hK _ ls (y_vi v :: rest) h1 hls (y_okS_cons.mpr ⟨ho.1 _ rfl, hst⟩) ho.2 h
    · cases (show (none : y_O) = some r from h)
    · cases (show (none : y_O) = some r from h)
  · rcases v with _ | v | w | v
    · cases (show (none : y_O) = some r from h)
    · cases (show (none : y_O) = some r from h)
    · cases (show (none : y_O) = some r from h)
    · exact hK _ ls (y_vl v :: rest) h1 hls (y_okS_cons.mpr ⟨ho.1 _ rfl, hst⟩) ho.2 h
  · rcases v with _ | v | w | v
    · exact hK _ ls rest h1 hls hst ho.2 h
    · cases (show (none : y_O) = some r from h)
    · cases (show (none : y_O) = some r from h)
    · cases (show (none : y_O) = some r from h)
theorem y_rt_none {q : Nat} {rest : List y_V} : y_rt q none K pc ls rest = none := by
  unfold y_rt
  split <;> rfl
theorem y_sim4 (hn : nn = 186 ∨ nn = 188) (hmc : z = 10 ∨ z = 11 ∨ z = 12 ∨ z = 13 ∨ z_lk x = true) (hls : y_okL nn ls) (hst : y_okS nn st) (hh : y_okH nn h) (hr : y_i4 C K x y z pc ls st h = some r) (hK : ∀ pc' ls' st' h', y_okL nn ls' → y_okS nn st' → y_okH nn h' → K pc' ls' st' h' = some r → T (K' pc' (c_Ls ls') (st'.map c_V) (c_H nn h')))
    (hC : ∀ x as h0 r0, z_lk x = true → y_okS nn as → y_okH nn h0 → C x as h0 = some r0 → y_okR nn r0 ∧ C' x (as.map c_V) (c_H nn h0) = some (c_R nn r0)) : T (z_i4 C' K' x y z pc (c_Ls ls) (st.map c_V) (c_H nn h)) := by
  have hd1 : y_okS nn (st.take y).reverse := y_okS_sub hst (fun v hv => List.mem_of_mem_take (List.mem_reverse.mp hv))
  have hd2 : y_okS nn (st.drop y) := y_okS_sub hst (fun v hv => List.mem_of_mem_drop hv)
  unfold y_i4 at hr
  split at hr
  · have hlk : z_lk x = true := by
      rcases hmc with q | q | q | q | q
      · omega
      · omega
      · omega
      · omega
      · exact q
    obtain ⟨g, h2⟩ := y_sg_some.mp hr
    show T (z_sg (Nat.ble y (st.map c_V).length && Nat.ble (z_cats ((st.map c_V).drop y)) 8) (z_rt (z_mr x) (C' x ((st.map c_V).take y).reverse (c_H nn h)) K' pc (c_Ls ls) ((st.map c_V).drop y)))
    rw [List.length_map, ← List.map_drop, ← List.map_take, ← List.map_reverse, z_cats_c, g]
    rcases ho : C x (st.take y).reverse h with _ | r0
    · rw [ho, y_rt_none] at h2
      cases h2
    · rw [ho] at h2
      obtain ⟨o1, o2⟩ := hC _ _ _ _ hlk hd1 hh ho
      rw [o2]
      exact y_rt_c o1 hls hd2 hK h2
  · obtain ⟨w, t, rfl, h2⟩ := y_pi_some.mp hr
    obtain ⟨v, t2, rfl, h3⟩ := y_pi_some.mp h2
    obtain ⟨g, h4⟩ := y_sg_some.mp h3
    obtain ⟨s1, s2⟩ := y_okS_cons.mp hst
    obtain ⟨s3, s4⟩ := y_okS_cons.mp s2
    show T (z_sg (Nat.ble (z_cats (t2.map c_V)) 8) (K' _ _ (z_vi (if Int32.ofInt v < Int32.ofInt w then Int32.ofInt w else Int32.ofInt v) :: _) _))
    have e : (if Int32.ofInt v < Int32.ofInt w then Int32.ofInt w else Int32.ofInt v) = Int32.ofInt (max v w) := by
      by_cases q : v < w
      · rw [if_pos ((y_lt_c s3 s1).mpr q), show max v w = w by omega]
      · rw [if_neg (fun q2 => q ((y_lt_c s3 s1).mp q2)), show max v w = v by omega]
    rw [z_cats_c, g, e]
    exact hK _ ls (y_vi (max v w) :: t2) _ hls (y_okS_cons.mpr ⟨by have h3 : y_inr v := s3; have h1 : y_inr w := s1; show y_inr (max v w); unfold y_inr at *; omega, s4⟩) hh h4
  · obtain ⟨w, t, rfl, h2⟩ := y_pi_some.mp hr
    obtain ⟨v, t2, rfl, h3⟩ := y_pi_some.mp h2
    obtain ⟨g, h4⟩ := y_sg_some.mp h3
    obtain ⟨s1, s2⟩ := y_okS_cons.mp hst
    obtain ⟨s3, s4⟩ := y_okS_cons.mp s2
    show T (z_sg (Nat.ble (z_cats (t2.map c_V)) 8) (K' _ _ (z_vi (if Int32.ofInt w < Int32.ofInt v then Int32.ofInt w else Int32.ofInt v) :: _) _))
    have e : (if Int32.ofInt w < Int32.ofInt v then Int32.ofInt w else Int32.ofInt v) = Int32.ofInt (min v w) := by
      by_cases q : w < v
      · rw [if_pos ((y_lt_c s1 s3).mpr q), show min v w = w by omega]
      · rw [if_neg (fun q2 => q ((y_lt_c s1 s3).mp q2)), show min v w = v by omega]
    rw [z_cats_c, g, e]
    exact hK _ ls (y_vi (min v w) :: t2) _ hls (y_okS_cons.mpr ⟨by have h3 : y_inr v := s3; have h1 : y_inr w := s1; show y_inr (min v w); unfold y_inr at *; omega, s4⟩) hh h4
  · obtain ⟨n9, t1, rfl, y1⟩ := y_pi_some.mp hr
    obtain ⟨dp, t2, rfl, y2⟩ := y_pi_some.mp y1
    obtain ⟨b9, t3, rfl, y3⟩ := y_pr_some.mp y2
    obtain ⟨sp, t4, rfl, y4⟩ := y_pi_some.mp y3
    obtain ⟨a9, t5, rfl, y5⟩ := y_pr_some.mp y4
    obtain ⟨g1, y6⟩ := y_sg_some.mp y5
    obtain ⟨g2, y7⟩ := y_kt_some.mp y6
    obtain ⟨g3, y8⟩ := y_kt_some.mp y7
    obtain ⟨⟨⟨g4, g5, g6⟩, g7, g8⟩, y9⟩ := y_cg_some.mp y8
    obtain ⟨s1, q1⟩ := y_okS_cons.mp hst
    obtain ⟨s2, q2⟩ := y_okS_cons.mp q1
    obtain ⟨s3, q3⟩ := y_okS_cons.mp q2
    obtain ⟨s4, q4⟩ := y_okS_cons.mp q3
    obtain ⟨s5, q5⟩ := y_okS_cons.mp q4
    have s1 : y_inr n9 := s1
    have s2 : y_inr dp := s2
    have s4 : y_inr sp := s4
    have e1 : ¬ Int32.ofInt sp < 0 := fun q => by have := (y_lt0_c s4).mp q; omega
    have e2 : ¬ Int32.ofInt dp < 0 := fun q => by have := (y_lt0_c s2).mp q; omega
    have e3 : ¬ Int32.ofInt n9 < 0 := fun q => by have := (y_lt0_c s1).mp q; omega
    have l1 := c_t_lt hn (show y_ng nn a9 = true from s5)
    have l2 := c_t_lt hn (show y_ng nn b9 = true from s3)
    have d1 := c_t_kd (show y_ng nn a9 = true from s5)
    have d2 := c_t_kd (show y_ng nn b9 = true from s3)
    show T (z_sg (Nat.ble (z_cats (t5.map c_V)) 8) (z_gd ((Nat.beq (w_kd (c_t a9)).1 10 && Nat.blt (c_t a9) (nn + 2)) && (Nat.beq (w_kd (c_t b9)).1 10 && Nat.blt (c_t b9) (nn + 2)) && (!(decide (Int32.ofInt sp < 0)) && !(decide (Int32.ofInt dp < 0)) && !(decide (Int32.ofInt n9 < 0))) && (Nat.ble ((Int32.ofInt sp).toNatClampNeg + (Int32.ofInt n9).toNatClampNeg) (w_kd (c_t a9)).2 && Nat.ble ((Int32.ofInt dp).toNatClampNeg + (Int32.ofInt n9).toNatClampNeg) (w_kd (c_t b9)).2)) (K' _ _ _ (z_cpI (c_H nn h) (c_t a9) (Int32.ofInt sp).toNatClampNeg (c_t b9) (Int32.ofInt dp).toNatClampNeg (Int32.ofInt n9).toNatClampNeg))))
    have f1 : Nat.ble (sp.toNat + n9.toNat) (z_kd a9).2 = true := Nat.ble_eq_true_of_le (by omega)
    have f2 : Nat.ble (dp.toNat + n9.toNat) (z_kd b9).2 = true := Nat.ble_eq_true_of_le (by omega)
    have f3 : Nat.blt (c_t a9) (nn + 2) = true := Nat.blt_eq.mpr l1
    have f4 : Nat.blt (c_t b9) (nn + 2) = true := Nat.blt_eq.mpr l2
    rw [z_cats_c, g1, decide_eq_false e1, decide_eq_false e2, decide_eq_false e3, y_nat_c s4, y_nat_c s2, y_nat_c s1, d1, d2, f1, f2, f3, f4, g2, g3, ← c_cpI s5 s3]
    exact hK _ _ _ _ hls q5 (y_okH_cpI hh) y9
  · obtain ⟨a, t2, rfl, h3⟩ := y_pr_some.mp hr
    obtain ⟨g, h4⟩ := y_sg_some.mp h3
    obtain ⟨g2, h5⟩ := y_sg_some.mp h4
    have ha := (y_okS_cons.mp hst).1
    have g3 : (!(Nat.beq (c_t a) 0)) = true := by
      have h0 : ¬ a = 0 := fun q => by subst q; cases g2
      cases q : Nat.beq (c_t a) 0
      · rfl
      · exact absurd ((c_t_0 (show y_ng nn a = true from ha)).mp (z_beq q)) h0
    show T (z_sg (Nat.ble (z_cats (t2.map c_V)) 8) (z_gd (!(Nat.beq (c_t a) 0)) _))
    rw [z_cats_c, g, g3]
    exact hK _ _ _ _ hls (y_okS_pi hst) hh h5
  · rename_i n1 n2 n3 n4 n5
    have hlk : z_lk x = true := by
      rcases hmc with q | q | q | q | q
      · exact absurd q n2
      · exact absurd q n3
      · exact absurd q n4
      · exact absurd q n5
      · exact q
    obtain ⟨g, h2⟩ := y_sg_some.mp hr
    have h9 : T (z_sg (Nat.ble y (st.map c_V).length && Nat.ble (z_cats ((st.map c_V).drop y)) 8) (z_rc (c_H nn h) ((st.map c_V).take y).reverse (z_mc x) (z_rt (z_mr x) (C' x ((st.map c_V).take y).reverse (c_H nn h)) K' pc (c_Ls ls) ((st.map c_V).drop y)))) := by
      rw [List.length_map, ← List.map_drop, ← List.map_take, ← List.map_reverse, z_cats_c, g]
      unfold y_rc at h2
      split at h2
      · rename_i a as he
        rw [he] at hd1
        obtain ⟨g2, h3⟩ := y_kt_some.mp h2
        have hob := y_ob_c hn (h := h) (y_okS_cons.mp hd1).1 g2
        rw [he]
        rw [he] at h3
        show T (z_gd (z_ob (c_H nn h) (c_t a) (z_mc x)) (z_rt (z_mr x) (C' x ((y_vr a :: as).map c_V) (c_H nn h)) K' pc (c_Ls ls) _))
        rw [hob]
        rcases ho : C x (y_vr a :: as) h with _ | r0
        · rw [ho, y_rt_none] at h3
          cases h3
        · rw [ho] at h3
          obtain ⟨o1, o2⟩ := hC _ _ _ _ hlk hd1 hh ho
          rw [o2]
          exact y_rt_c o1 hls hd2 hK h3
      · cases h2
    unfold z_i4
    split
    · exact absurd rfl n1
    · exact absurd rfl n2
    · exact absurd rfl n3
    · exact absurd rfl n4
    · exact absurd rfl n5
    · exact h9
end SIM
end
section
/-! runs and calls over whole numbers are runs and calls of the pure semantics -/
theorem y_prog : (z_pgl.all fun L => L.all fun q => y_cok q.2.2.2.1 q.2.2.2.2.1 q.2.2.2.2.2.1) = true := by decide +kernel
theorem y_cokA {M pc len g x y z t i : Nat} {ins : Jvm.ClassFile.Instr} (h : (pc, len, g, ins, x, y, z, t, i) ∈ z_pg M) : y_cok ins x y = true := by
  unfold z_pg at h
  split at h
  · rename_i L hL
    exact List.all_eq_true.mp (List.all_eq_true.mp y_prog L (List.mem_of_getElem? hL)) _ h
  · cases h
theorem y_mc {M pc len x y z : Nat} {ins : Jvm.ClassFile.Instr} (hok : z_sok M pc len 4 ins x y z = true) : z = 10 ∨ z = 11 ∨ z = 12 ∨ z = 13 ∨ z_lk x = true := by
  rcases z_g4 hok with ⟨n, rfl⟩ | ⟨n, rfl⟩ | ⟨n, rfl⟩
  · unfold z_sok at hok
    simp only [Bool.and_eq_true] at hok
    exact Or.inr (Or.inr (Or.inr (Or.inr hok.2)))
  · unfold z_sok at hok
    simp only [Bool.and_eq_true] at hok
    have k3 := hok.2
    split at k3
    · omega
    · omega
    · omega
    · simp only [Bool.and_eq_true] at k3
      exact Or.inr (Or.inr (Or.inr (Or.inr k3.2)))
    · cases k3
  · unfold z_sok at hok
    simp only [Bool.and_eq_true] at hok
    have k3 := hok.2
    split at k3
    · omega
    · simp only [Bool.and_eq_true] at k3
      exact Or.inr (Or.inr (Or.inr (Or.inr k3.2)))
    · simp only [Bool.and_eq_true] at k3
      exact Or.inr (Or.inr (Or.inr (Or.inr k3.2)))
    · cases k3
section YRUN
variable {sc : z_Sc} {C : y_C} {C' : z_C} {M nn : Nat} {r : y_R} {T : z_O → Prop}
/-- one step: whatever goes on behind it (K, K') -/
theorem y_step (hM : z_lk M = true ∨ M = 250) (hn : nn = 186 ∨ nn = 188) (hC : ∀ x as h0 r0, z_lk x = true → y_okS nn as → y_okH nn h0 → C x as h0 = some r0 → y_okR nn r0 ∧ C' x (as.map c_V) (c_H nn h0) = some (c_R nn r0)) (hR : y_okR nn r → T (some (c_R nn r))) {K : y_K} {K' : z_K}
    (hK : ∀ pc' ls' st' h', y_okL nn ls' → y_okS nn st' → y_okH nn h' → K pc' ls' st' h' = some r → T (K' pc' (c_Ls ls') (st'.map c_V) (c_H nn h'))) {pc : Nat} {ls : y_Ls} {st : List y_V} {h : y_Hp} (hls : y_okL nn ls) (hst : y_okS nn st) (hh : y_okH nn h) (q : y_st sc C K (z_gt (z_pg M) pc) pc ls st h = some r) : T (z_st sc C' K' (z_gt (z_pg M) pc) pc (c_Ls ls) (st.map c_V) (c_H nn h)) := by
  rcases hg : z_gt (z_pg M) pc with _ | ⟨g, ins, x, y, z, t, i⟩
  · rw [hg] at q
    cases q
  · rw [hg] at q
    obtain ⟨len, hm⟩ := z_gt_mem hg
    have hck := List.all_eq_true.mp (z_ckA M hM) _ hm
    unfold z_eck at hck
    simp only [Bool.and_eq_true, decide_eq_true_eq] at hck
    obtain ⟨h1, h2, h3⟩ := hck
    have hc := y_cokA hm
    have hg4 := z_g_le h2
    rcases (show g = 0 ∨ g = 1 ∨ g = 2 ∨ g = 3 ∨ g = 4 by omega) with rfl | rfl | rfl | rfl | rfl
    · exact y_sim0 hls hst hh hc q hK
    · exact y_sim1 hls hst hh q hK
    · exact y_sim2 hls hst hh hc hR q hK
    · exact y_sim3 h2 hn hls hst hh q hK
    · exact y_sim4 hn (y_mc h2) hls hst hh q hK hC
theorem y_run (hM : z_lk M = true ∨ M = 250) (hn : nn = 186 ∨ nn = 188) (hC : ∀ x as h0 r0, z_lk x = true → y_okS nn as → y_okH nn h0 → C x as h0 = some r0 → y_okR nn r0 ∧ C' x (as.map c_V) (c_H nn h0) = some (c_R nn r0)) :
    ∀ n pc ls st h, y_okL nn ls → y_okS nn st → y_okH nn h → y_rn sc C (z_pg M) n pc ls st h = some r → y_okR nn r ∧ z_rn sc C' (z_pg M) n pc (c_Ls ls) (st.map c_V) (c_H nn h) = some (c_R nn r)
  | 0, _, _, _, _, _, _, _, q => by cases q
  | n + 1, pc, ls, st, h, hls, hst, hh, q => by
    have q : y_st sc C (y_rn sc C (z_pg M) n) (z_gt (z_pg M) pc) pc ls st h = some r := q
    exact y_step (T := fun o => y_okR nn r ∧ o = some (c_R nn r)) hM hn hC (fun h => ⟨h, rfl⟩) (fun pc' ls' st' h' a1 a2 a3 a4 => y_run hM hn hC n pc' ls' st' h' a1 a2 a3 a4) hls hst hh q
end YRUN
theorem y_lay_c : ∀ as : List y_V, z_lay (as.map c_V) = c_Ls (y_lay as)
  | [] => rfl
  | v :: r => by
    have ih := y_lay_c r
    rcases v with x | a | x
    · show some (c_V (.inl x)) :: z_lay (r.map c_V) = _
      rw [ih]; rfl
    · show some (c_V (.inr (.inl a))) :: z_lay (r.map c_V) = _
      rw [ih]; rfl
    · show some (c_V (.inr (.inr x))) :: none :: z_lay (r.map c_V) = _
      rw [ih]; rfl
theorem y_lay_len (as : List y_V) : (z_lay (as.map c_V)).length = (y_lay as).length := by
  rw [y_lay_c]
  exact List.length_map _
theorem y_ent_c {as : List y_V} {n : Nat} : z_ent (as.map c_V) n = c_Ls (y_ent as n) := by
  unfold z_ent y_ent
  rw [y_lay_len, y_lay_c]
  unfold c_Ls
  rw [List.map_append, List.map_replicate]
  rfl
theorem y_lay_ok {nn : Nat} : ∀ as : List y_V, y_okS nn as → ∀ v, some v ∈ y_lay as → y_okV nn v
  | [], _, _, h => by cases h
  | v :: r, hs, w, h => by
    obtain ⟨s1, s2⟩ := y_okS_cons.mp hs
    have ih := y_lay_ok r s2 w
    rcases v with x | a | x
    · rcases List.mem_cons.mp h with e | e
      · cases e; exact s1
      · exact ih e
    · rcases List.mem_cons.mp h with e | e
      · cases e; exact s1
      · exact ih e
    · rcases List.mem_cons.mp h with e | e
      · cases e; exact s1
      · rcases List.mem_cons.mp e with e | e
        · cases e
        · exact ih e
theorem y_ent_ok {nn : Nat} {as : List y_V} {n : Nat} (h : y_okS nn as) : y_okL nn (y_ent as n) := by
  intro k v hk
  unfold y_ent at hk
  rcases List.mem_append.mp (List.mem_of_getElem? hk) with e | e
  · exact y_lay_ok as h v e
  · have := List.eq_of_mem_replicate e
    cases this
theorem y_call {sc : z_Sc} {nn : Nat} (hn : nn = 186 ∨ nn = 188) {n : Nat} : ∀ d M as h r, z_lk M = true → y_okS nn as → y_okH nn h → y_ca z_pg sc n d M as h = some r → y_okR nn r ∧ z_ca z_pg sc n d M (as.map c_V) (c_H nn h) = some (c_R nn r)
  | 0, _, _, _, _, _, _, _, q => by cases q
  | d + 1, M, as, h, r, hM, hs, hh, q => by
    unfold y_ca at q
    obtain ⟨g, q⟩ := y_sg_some.mp q
    unfold z_ca
    rw [y_lay_len, g, y_ent_c]
    exact y_run (Or.inl hM) hn (fun x as h0 r0 h1 h2 h3 h4 => y_call hn d x as h0 r0 h1 h2 h3 h4) n 0 _ _ _ (y_ent_ok hs) (fun v hv => by cases hv) hh q
end
