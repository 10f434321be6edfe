-- ===== PART A: goes FIRST, ahead of the names: the tables' words, and 'selects' of the private methods out of them =====
/-- a private method of a class that the tables say can be made, by its rows of tables_1 -/
def lw_okq (q : MethodName × Nat) : Prop := (q.1.cls ≠ "java/lang/invoke/MethodHandle" ∧ q.1.cls ≠ "java/lang/invoke/VarHandle") ∧ Cond.instantiable q.1.cls q.2 ∈ tables_1 ∧ Cond.privateMethod q.1 ∈ tables_1 ∧ Cond.instanceMethod q.1 ∈ tables_1
theorem lw_p0 : lw_okq (⟨"PaperRound$Plan", "firstWrongOf", "(LPaperRound$House;I)I"⟩, 1) := ⟨⟨by decide +kernel, by decide +kernel⟩, List.mem_of_getElem? (i := 66) (by decide +kernel), List.mem_of_getElem? (i := 361) (by decide +kernel), List.mem_of_getElem? (i := 362) (by decide +kernel)⟩
theorem lw_p1 : lw_okq (⟨"PaperRound$Plan", "isCrowded", "(LPaperRound$House;I)Z"⟩, 1) := ⟨⟨by decide +kernel, by decide +kernel⟩, List.mem_of_getElem? (i := 66) (by decide +kernel), List.mem_of_getElem? (i := 365) (by decide +kernel), List.mem_of_getElem? (i := 366) (by decide +kernel)⟩
theorem lw_p2 : lw_okq (⟨"PaperRound$Plan", "isInOrder", "(LPaperRound$House;I)Z"⟩, 1) := ⟨⟨by decide +kernel, by decide +kernel⟩, List.mem_of_getElem? (i := 66) (by decide +kernel), List.mem_of_getElem? (i := 373) (by decide +kernel), List.mem_of_getElem? (i := 374) (by decide +kernel)⟩
theorem lw_p3 : lw_okq (⟨"PaperRound$Plan", "lossBy", "(LPaperRound$House;I)I"⟩, 1) := ⟨⟨by decide +kernel, by decide +kernel⟩, List.mem_of_getElem? (i := 66) (by decide +kernel), List.mem_of_getElem? (i := 404) (by decide +kernel), List.mem_of_getElem? (i := 405) (by decide +kernel)⟩
theorem lw_p4 : lw_okq (⟨"PaperRound", "found", "(I)I"⟩, 14) := ⟨⟨by decide +kernel, by decide +kernel⟩, List.mem_of_getElem? (i := 12) (by decide +kernel), List.mem_of_getElem? (i := 440) (by decide +kernel), List.mem_of_getElem? (i := 441) (by decide +kernel)⟩
theorem lw_p5 : lw_okq (⟨"PaperRound", "lackOfCard", "(I)I"⟩, 14) := ⟨⟨by decide +kernel, by decide +kernel⟩, List.mem_of_getElem? (i := 12) (by decide +kernel), List.mem_of_getElem? (i := 455) (by decide +kernel), List.mem_of_getElem? (i := 456) (by decide +kernel)⟩
theorem lw_p6 : lw_okq (⟨"PaperRound$Round", "pick", "(I)I"⟩, 7) := ⟨⟨by decide +kernel, by decide +kernel⟩, List.mem_of_getElem? (i := 96) (by decide +kernel), List.mem_of_getElem? (i := 471) (by decide +kernel), List.mem_of_getElem? (i := 472) (by decide +kernel)⟩
theorem lw_p7 : lw_okq (⟨"PaperRound$Round", "pickNext", "(I)I"⟩, 7) := ⟨⟨by decide +kernel, by decide +kernel⟩, List.mem_of_getElem? (i := 96) (by decide +kernel), List.mem_of_getElem? (i := 475) (by decide +kernel), List.mem_of_getElem? (i := 476) (by decide +kernel)⟩
theorem lw_p8 : lw_okq (⟨"PaperRound$Round", "firstOf", "(II)I"⟩, 7) := ⟨⟨by decide +kernel, by decide +kernel⟩, List.mem_of_getElem? (i := 96) (by decide +kernel), List.mem_of_getElem? (i := 479) (by decide +kernel), List.mem_of_getElem? (i := 480) (by decide +kernel)⟩
theorem lw_p9 : lw_okq (⟨"PaperRound$Round", "isThrough", "(I)Z"⟩, 7) := ⟨⟨by decide +kernel, by decide +kernel⟩, List.mem_of_getElem? (i := 96) (by decide +kernel), List.mem_of_getElem? (i := 484) (by decide +kernel), List.mem_of_getElem? (i := 485) (by decide +kernel)⟩
theorem lw_p10 : lw_okq (⟨"PaperRound$Round", "mayBegin", "(II)Z"⟩, 7) := ⟨⟨by decide +kernel, by decide +kernel⟩, List.mem_of_getElem? (i := 96) (by decide +kernel), List.mem_of_getElem? (i := 488) (by decide +kernel), List.mem_of_getElem? (i := 489) (by decide +kernel)⟩
theorem lw_p11 : lw_okq (⟨"PaperRound$Round", "freeCopy", "(II)I"⟩, 7) := ⟨⟨by decide +kernel, by decide +kernel⟩, List.mem_of_getElem? (i := 96) (by decide +kernel), List.mem_of_getElem? (i := 493) (by decide +kernel), List.mem_of_getElem? (i := 494) (by decide +kernel)⟩
theorem lw_p12 : lw_okq (⟨"PaperRound$Round", "pickDear", "(I)I"⟩, 7) := ⟨⟨by decide +kernel, by decide +kernel⟩, List.mem_of_getElem? (i := 96) (by decide +kernel), List.mem_of_getElem? (i := 499) (by decide +kernel), List.mem_of_getElem? (i := 500) (by decide +kernel)⟩
theorem lw_p13 : lw_okq (⟨"PaperRound$Round", "pickShort", "(I)I"⟩, 7) := ⟨⟨by decide +kernel, by decide +kernel⟩, List.mem_of_getElem? (i := 96) (by decide +kernel), List.mem_of_getElem? (i := 504) (by decide +kernel), List.mem_of_getElem? (i := 505) (by decide +kernel)⟩
theorem lw_p14 : lw_okq (⟨"PaperRound$Round", "pickByCard", "(I)I"⟩, 7) := ⟨⟨by decide +kernel, by decide +kernel⟩, List.mem_of_getElem? (i := 96) (by decide +kernel), List.mem_of_getElem? (i := 508) (by decide +kernel), List.mem_of_getElem? (i := 509) (by decide +kernel)⟩
theorem lw_p15 : lw_okq (⟨"PaperRound$Round", "begin", "(II)V"⟩, 7) := ⟨⟨by decide +kernel, by decide +kernel⟩, List.mem_of_getElem? (i := 96) (by decide +kernel), List.mem_of_getElem? (i := 512) (by decide +kernel), List.mem_of_getElem? (i := 513) (by decide +kernel)⟩
def lw_privs_1 : List (MethodName × Nat) := [(⟨"PaperRound$Plan", "firstWrongOf", "(LPaperRound$House;I)I"⟩, 1), (⟨"PaperRound$Plan", "isCrowded", "(LPaperRound$House;I)Z"⟩, 1), (⟨"PaperRound$Plan", "isInOrder", "(LPaperRound$House;I)Z"⟩, 1), (⟨"PaperRound$Plan", "lossBy", "(LPaperRound$House;I)I"⟩, 1), (⟨"PaperRound", "found", "(I)I"⟩, 14), (⟨"PaperRound", "lackOfCard", "(I)I"⟩, 14), (⟨"PaperRound$Round", "pick", "(I)I"⟩, 7), (⟨"PaperRound$Round", "pickNext", "(I)I"⟩, 7), (⟨"PaperRound$Round", "firstOf", "(II)I"⟩, 7), (⟨"PaperRound$Round", "isThrough", "(I)Z"⟩, 7), (⟨"PaperRound$Round", "mayBegin", "(II)Z"⟩, 7), (⟨"PaperRound$Round", "freeCopy", "(II)I"⟩, 7), (⟨"PaperRound$Round", "pickDear", "(I)I"⟩, 7), (⟨"PaperRound$Round", "pickShort", "(I)I"⟩, 7), (⟨"PaperRound$Round", "pickByCard", "(I)I"⟩, 7), (⟨"PaperRound$Round", "begin", "(II)V"⟩, 7)]
theorem lw_r1 : ∀ q ∈ lw_privs_1, lw_okq q := List.forall_mem_cons.mpr ⟨lw_p0, List.forall_mem_cons.mpr ⟨lw_p1, List.forall_mem_cons.mpr ⟨lw_p2, List.forall_mem_cons.mpr ⟨lw_p3, List.forall_mem_cons.mpr ⟨lw_p4, List.forall_mem_cons.mpr ⟨lw_p5, List.forall_mem_cons.mpr ⟨lw_p6, List.forall_mem_cons.mpr ⟨lw_p7, List.forall_mem_cons.mpr ⟨lw_p8, List.forall_mem_cons.mpr ⟨lw_p9, List.forall_mem_cons.mpr ⟨lw_p10, List.forall_mem_cons.mpr ⟨lw_p11, List.forall_mem_cons.mpr ⟨lw_p12, List.forall_mem_cons.mpr ⟨lw_p13, List.forall_mem_cons.mpr ⟨lw_p14, List.forall_mem_cons.mpr ⟨lw_p15, fun _ h => absurd h List.not_mem_nil⟩⟩⟩⟩⟩⟩⟩⟩⟩⟩⟩⟩⟩⟩⟩⟩
theorem lw_p16 : lw_okq (⟨"PaperRound$Round", "letGo", "(I)V"⟩, 7) := ⟨⟨by decide +kernel, by decide +kernel⟩, List.mem_of_getElem? (i := 96) (by decide +kernel), List.mem_of_getElem? (i := 516) (by decide +kernel), List.mem_of_getElem? (i := 517) (by decide +kernel)⟩
theorem lw_p17 : lw_okq (⟨"PaperRound$Rule", "swap", "(II)V"⟩, 2) := ⟨⟨by decide +kernel, by decide +kernel⟩, List.mem_of_getElem? (i := 79) (by decide +kernel), List.mem_of_getElem? (i := 534) (by decide +kernel), List.mem_of_getElem? (i := 535) (by decide +kernel)⟩
theorem lw_p18 : lw_okq (⟨"PaperRound", "searchAll", "(I)I"⟩, 14) := ⟨⟨by decide +kernel, by decide +kernel⟩, List.mem_of_getElem? (i := 12) (by decide +kernel), List.mem_of_getElem? (i := 542) (by decide +kernel), List.mem_of_getElem? (i := 543) (by decide +kernel)⟩
theorem lw_p19 : lw_okq (⟨"PaperRound$Search", "miss", "(II)V"⟩, 17) := ⟨⟨by decide +kernel, by decide +kernel⟩, List.mem_of_getElem? (i := 124) (by decide +kernel), List.mem_of_getElem? (i := 554) (by decide +kernel), List.mem_of_getElem? (i := 555) (by decide +kernel)⟩
theorem lw_p20 : lw_okq (⟨"PaperRound$Search", "weigh", "(I)V"⟩, 17) := ⟨⟨by decide +kernel, by decide +kernel⟩, List.mem_of_getElem? (i := 124) (by decide +kernel), List.mem_of_getElem? (i := 566) (by decide +kernel), List.mem_of_getElem? (i := 567) (by decide +kernel)⟩
theorem lw_p21 : lw_okq (⟨"PaperRound$Search", "hope", "(I)I"⟩, 17) := ⟨⟨by decide +kernel, by decide +kernel⟩, List.mem_of_getElem? (i := 124) (by decide +kernel), List.mem_of_getElem? (i := 574) (by decide +kernel), List.mem_of_getElem? (i := 575) (by decide +kernel)⟩
theorem lw_p22 : lw_okq (⟨"PaperRound$Search", "earliest", "(I)I"⟩, 17) := ⟨⟨by decide +kernel, by decide +kernel⟩, List.mem_of_getElem? (i := 124) (by decide +kernel), List.mem_of_getElem? (i := 578) (by decide +kernel), List.mem_of_getElem? (i := 579) (by decide +kernel)⟩
theorem lw_p23 : lw_okq (⟨"PaperRound$Search", "firstCopy", "(I)I"⟩, 17) := ⟨⟨by decide +kernel, by decide +kernel⟩, List.mem_of_getElem? (i := 124) (by decide +kernel), List.mem_of_getElem? (i := 582) (by decide +kernel), List.mem_of_getElem? (i := 583) (by decide +kernel)⟩
theorem lw_p24 : lw_okq (⟨"PaperRound$Search", "isNext", "(I)Z"⟩, 17) := ⟨⟨by decide +kernel, by decide +kernel⟩, List.mem_of_getElem? (i := 124) (by decide +kernel), List.mem_of_getElem? (i := 590) (by decide +kernel), List.mem_of_getElem? (i := 591) (by decide +kernel)⟩
theorem lw_p25 : lw_okq (⟨"PaperRound$Search", "place", "(III)V"⟩, 17) := ⟨⟨by decide +kernel, by decide +kernel⟩, List.mem_of_getElem? (i := 124) (by decide +kernel), List.mem_of_getElem? (i := 594) (by decide +kernel), List.mem_of_getElem? (i := 595) (by decide +kernel)⟩
theorem lw_p26 : lw_okq (⟨"PaperRound$Search", "takeBack", "(II)V"⟩, 17) := ⟨⟨by decide +kernel, by decide +kernel⟩, List.mem_of_getElem? (i := 124) (by decide +kernel), List.mem_of_getElem? (i := 598) (by decide +kernel), List.mem_of_getElem? (i := 599) (by decide +kernel)⟩
theorem lw_p27 : lw_okq (⟨"PaperRound", "keepAhead", "(I)V"⟩, 14) := ⟨⟨by decide +kernel, by decide +kernel⟩, List.mem_of_getElem? (i := 12) (by decide +kernel), List.mem_of_getElem? (i := 614) (by decide +kernel), List.mem_of_getElem? (i := 615) (by decide +kernel)⟩
theorem lw_p28 : lw_okq (⟨"PaperRound", "canAllHaveAll", "(I)Z"⟩, 14) := ⟨⟨by decide +kernel, by decide +kernel⟩, List.mem_of_getElem? (i := 12) (by decide +kernel), List.mem_of_getElem? (i := 639) (by decide +kernel), List.mem_of_getElem? (i := 640) (by decide +kernel)⟩
theorem lw_p29 : lw_okq (⟨"PaperRound$HouseText", "look", "()I"⟩, 7) := ⟨⟨by decide +kernel, by decide +kernel⟩, List.mem_of_getElem? (i := 38) (by decide +kernel), List.mem_of_getElem? (i := 688) (by decide +kernel), List.mem_of_getElem? (i := 689) (by decide +kernel)⟩
theorem lw_p30 : lw_okq (⟨"PaperRound$HouseText", "takeSign", "(C)Z"⟩, 7) := ⟨⟨by decide +kernel, by decide +kernel⟩, List.mem_of_getElem? (i := 38) (by decide +kernel), List.mem_of_getElem? (i := 692) (by decide +kernel), List.mem_of_getElem? (i := 693) (by decide +kernel)⟩
theorem lw_p31 : lw_okq (⟨"PaperRound$HouseText", "takeLast", "()Z"⟩, 7) := ⟨⟨by decide +kernel, by decide +kernel⟩, List.mem_of_getElem? (i := 38) (by decide +kernel), List.mem_of_getElem? (i := 696) (by decide +kernel), List.mem_of_getElem? (i := 697) (by decide +kernel)⟩
def lw_privs_2 : List (MethodName × Nat) := [(⟨"PaperRound$Round", "letGo", "(I)V"⟩, 7), (⟨"PaperRound$Rule", "swap", "(II)V"⟩, 2), (⟨"PaperRound", "searchAll", "(I)I"⟩, 14), (⟨"PaperRound$Search", "miss", "(II)V"⟩, 17), (⟨"PaperRound$Search", "weigh", "(I)V"⟩, 17), (⟨"PaperRound$Search", "hope", "(I)I"⟩, 17), (⟨"PaperRound$Search", "earliest", "(I)I"⟩, 17), (⟨"PaperRound$Search", "firstCopy", "(I)I"⟩, 17), (⟨"PaperRound$Search", "isNext", "(I)Z"⟩, 17), (⟨"PaperRound$Search", "place", "(III)V"⟩, 17), (⟨"PaperRound$Search", "takeBack", "(II)V"⟩, 17), (⟨"PaperRound", "keepAhead", "(I)V"⟩, 14), (⟨"PaperRound", "canAllHaveAll", "(I)Z"⟩, 14), (⟨"PaperRound$HouseText", "look", "()I"⟩, 7), (⟨"PaperRound$HouseText", "takeSign", "(C)Z"⟩, 7), (⟨"PaperRound$HouseText", "takeLast", "()Z"⟩, 7)]
theorem lw_r2 : ∀ q ∈ lw_privs_2, lw_okq q := List.forall_mem_cons.mpr ⟨lw_p16, List.forall_mem_cons.mpr ⟨lw_p17, List.forall_mem_cons.mpr ⟨lw_p18, List.forall_mem_cons.mpr ⟨lw_p19, List.forall_mem_cons.mpr ⟨lw_p20, List.forall_mem_cons.mpr ⟨lw_p21, List.forall_mem_cons.mpr ⟨lw_p22, List.forall_mem_cons.mpr ⟨lw_p23, List.forall_mem_cons.mpr ⟨lw_p24, List.forall_mem_cons.mpr ⟨lw_p25, List.forall_mem_cons.mpr ⟨lw_p26, List.forall_mem_cons.mpr ⟨lw_p27, List.forall_mem_cons.mpr ⟨lw_p28, List.forall_mem_cons.mpr ⟨lw_p29, List.forall_mem_cons.mpr ⟨lw_p30, List.forall_mem_cons.mpr ⟨lw_p31, fun _ h => absurd h List.not_mem_nil⟩⟩⟩⟩⟩⟩⟩⟩⟩⟩⟩⟩⟩⟩⟩⟩
theorem lw_p32 : lw_okq (⟨"PaperRound$HouseText", "takeMinute", "(II)Z"⟩, 7) := ⟨⟨by decide +kernel, by decide +kernel⟩, List.mem_of_getElem? (i := 38) (by decide +kernel), List.mem_of_getElem? (i := 700) (by decide +kernel), List.mem_of_getElem? (i := 701) (by decide +kernel)⟩
theorem lw_p33 : lw_okq (⟨"PaperRound$HouseText", "figure", "()I"⟩, 7) := ⟨⟨by decide +kernel, by decide +kernel⟩, List.mem_of_getElem? (i := 38) (by decide +kernel), List.mem_of_getElem? (i := 704) (by decide +kernel), List.mem_of_getElem? (i := 705) (by decide +kernel)⟩
theorem lw_p34 : lw_okq (⟨"PaperRound$HouseText", "takePart", "()Z"⟩, 7) := ⟨⟨by decide +kernel, by decide +kernel⟩, List.mem_of_getElem? (i := 38) (by decide +kernel), List.mem_of_getElem? (i := 708) (by decide +kernel), List.mem_of_getElem? (i := 709) (by decide +kernel)⟩
theorem lw_p35 : lw_okq (⟨"PaperRound$HouseText", "takeFigure", "(II)Z"⟩, 7) := ⟨⟨by decide +kernel, by decide +kernel⟩, List.mem_of_getElem? (i := 38) (by decide +kernel), List.mem_of_getElem? (i := 712) (by decide +kernel), List.mem_of_getElem? (i := 713) (by decide +kernel)⟩
theorem lw_p36 : lw_okq (⟨"PaperRound$HouseText", "takeReader", "()Z"⟩, 7) := ⟨⟨by decide +kernel, by decide +kernel⟩, List.mem_of_getElem? (i := 38) (by decide +kernel), List.mem_of_getElem? (i := 720) (by decide +kernel), List.mem_of_getElem? (i := 721) (by decide +kernel)⟩
theorem lw_p37 : lw_okq (⟨"PaperRound$HouseText", "takeWant", "()Z"⟩, 7) := ⟨⟨by decide +kernel, by decide +kernel⟩, List.mem_of_getElem? (i := 38) (by decide +kernel), List.mem_of_getElem? (i := 728) (by decide +kernel), List.mem_of_getElem? (i := 729) (by decide +kernel)⟩
theorem lw_p38 : lw_okq (⟨"PaperRound$HouseText", "takeNot", "()Z"⟩, 7) := ⟨⟨by decide +kernel, by decide +kernel⟩, List.mem_of_getElem? (i := 38) (by decide +kernel), List.mem_of_getElem? (i := 741) (by decide +kernel), List.mem_of_getElem? (i := 742) (by decide +kernel)⟩
theorem lw_p39 : lw_okq (⟨"PaperRound$HouseText", "takeCushion", "()Z"⟩, 7) := ⟨⟨by decide +kernel, by decide +kernel⟩, List.mem_of_getElem? (i := 38) (by decide +kernel), List.mem_of_getElem? (i := 750) (by decide +kernel), List.mem_of_getElem? (i := 751) (by decide +kernel)⟩
def lw_privs_3 : List (MethodName × Nat) := [(⟨"PaperRound$HouseText", "takeMinute", "(II)Z"⟩, 7), (⟨"PaperRound$HouseText", "figure", "()I"⟩, 7), (⟨"PaperRound$HouseText", "takePart", "()Z"⟩, 7), (⟨"PaperRound$HouseText", "takeFigure", "(II)Z"⟩, 7), (⟨"PaperRound$HouseText", "takeReader", "()Z"⟩, 7), (⟨"PaperRound$HouseText", "takeWant", "()Z"⟩, 7), (⟨"PaperRound$HouseText", "takeNot", "()Z"⟩, 7), (⟨"PaperRound$HouseText", "takeCushion", "()Z"⟩, 7)]
theorem lw_r3 : ∀ q ∈ lw_privs_3, lw_okq q := List.forall_mem_cons.mpr ⟨lw_p32, List.forall_mem_cons.mpr ⟨lw_p33, List.forall_mem_cons.mpr ⟨lw_p34, List.forall_mem_cons.mpr ⟨lw_p35, List.forall_mem_cons.mpr ⟨lw_p36, List.forall_mem_cons.mpr ⟨lw_p37, List.forall_mem_cons.mpr ⟨lw_p38, List.forall_mem_cons.mpr ⟨lw_p39, fun _ h => absurd h List.not_mem_nil⟩⟩⟩⟩⟩⟩⟩⟩
def lw_privs : List (MethodName × Nat) := lw_privs_1 ++ (lw_privs_2 ++ (lw_privs_3))
def lw_tbl : List Cond := k2_sels lw_privs ++ tables_1
theorem lw_privs_ok : ∀ q ∈ lw_privs, lw_okq q := by
  show ∀ q ∈ lw_privs_1 ++ (lw_privs_2 ++ (lw_privs_3)), lw_okq q
  exact List.forall_mem_append.mpr ⟨lw_r1, List.forall_mem_append.mpr ⟨lw_r2, lw_r3⟩⟩
-- ===== end of PART A; then your names; then what follows =====
def RX0 : String := "PaperRound$House"
def TX0 : u_T := fun k => match k with
  | 0 => ("PaperRound$House", "last", "I", false)
  | 1 => ("PaperRound$House", "parts", "I", false)
  | 2 => ("PaperRound$House", "readers", "I", false)
  | 3 => ("PaperRound$House", "wants", "I", false)
  | 4 => ("PaperRound$House", "copies", "[I", true)
  | 5 => ("PaperRound$House", "comes", "[I", true)
  | 6 => ("PaperRound$House", "stale", "[I", true)
  | 7 => ("PaperRound$House", "covered", "[J", true)
  | 8 => ("PaperRound$House", "from", "[I", true)
  | 9 => ("PaperRound$House", "till", "[I", true)
  | 10 => ("PaperRound$House", "wantsOf", "[I", true)
  | 11 => ("PaperRound$House", "ordered", "[Z", true)
  | 12 => ("PaperRound$House", "readerOf", "[I", true)
  | 13 => ("PaperRound$House", "partOf", "[I", true)
  | 14 => ("PaperRound$House", "minutes", "[I", true)
  | 15 => ("PaperRound$House", "worth", "[I", true)
  | 16 => ("PaperRound$House", "notAfter", "[I", true)
  | 17 => ("PaperRound$House", "rivals", "[I", true)
  | _ => ("PaperRound$House", "ahead", "[I", true)
def tyX0 : Nat → FieldType := fun k => match k with
  | 0 => .int
  | 1 => .int
  | 2 => .int
  | 3 => .int
  | 4 => .array .int
  | 5 => .array .int
  | 6 => .array .int
  | 7 => .array .long
  | 8 => .array .int
  | 9 => .array .int
  | 10 => .array .int
  | 11 => .array .boolean
  | 12 => .array .int
  | 13 => .array .int
  | 14 => .array .int
  | 15 => .array .int
  | 16 => .array .int
  | 17 => .array .int
  | _ => .array .int
abbrev wsX00 : List Cond := u_ws RX0 TX0 19
theorem nmX0 : ∀ a, a < 19 → ∀ b, b < 19 → a ≠ b → (TX0 a).2.1 ≠ (TX0 b).2.1 := by decide +kernel
theorem tyX0_ok : ∀ k, k < 19 → parseFieldDescriptor (TX0 k).2.2.1 = some (tyX0 k) := by decide +kernel
abbrev cX0_init : ByteArray := prog_2_method_1_code
def yX0_init : MethodName := ⟨RX0, "<init>", "()V"⟩
abbrev cX0_clear : ByteArray := prog_2_method_2_code
def yX0_clear : MethodName := ⟨RX0, "clear", "()V"⟩
abbrev cX0_hasPart : ByteArray := prog_2_method_3_code
def yX0_hasPart : MethodName := ⟨RX0, "hasPart", "(I)Z"⟩
abbrev cX0_hasReader : ByteArray := prog_2_method_4_code
def yX0_hasReader : MethodName := ⟨RX0, "hasReader", "(I)Z"⟩
abbrev cX0_addPart : ByteArray := prog_2_method_9_code
def yX0_addPart : MethodName := ⟨RX0, "addPart", "(III)V"⟩
abbrev cX0_addReader : ByteArray := prog_2_method_10_code
def yX0_addReader : MethodName := ⟨RX0, "addReader", "(IIZ)V"⟩
abbrev cX0_addWant : ByteArray := prog_2_method_11_code
def yX0_addWant : MethodName := ⟨RX0, "addWant", "(III)V"⟩
abbrev cX0_forbid : ByteArray := prog_2_method_12_code
def yX0_forbid : MethodName := ⟨RX0, "forbid", "(III)V"⟩
abbrev cX0_cover : ByteArray := prog_2_method_13_code
def yX0_cover : MethodName := ⟨RX0, "cover", "(III)V"⟩
abbrev cX0_wantOf : ByteArray := prog_2_method_14_code
def yX0_wantOf : MethodName := ⟨RX0, "wantOf", "(II)I"⟩
abbrev cX0_worthAt : ByteArray := prog_2_method_15_code
def yX0_worthAt : MethodName := ⟨RX0, "worthAt", "(II)I"⟩
abbrev cX0_coveredFrom : ByteArray := prog_2_method_16_code
def yX0_coveredFrom : MethodName := ⟨RX0, "coveredFrom", "(II)I"⟩
abbrev cX0_comesAfter : ByteArray := prog_2_method_17_code
def yX0_comesAfter : MethodName := ⟨RX0, "comesAfter", "(II[I)Z"⟩
abbrev cX0_latestBegin : ByteArray := prog_2_method_18_code
def yX0_latestBegin : MethodName := ⟨RX0, "latestBegin", "(I)I"⟩
def RX1 : String := "PaperRound$HouseText"
def TX1 : u_T := fun k => match k with
  | 0 => ("PaperRound$HouseText", "bytes", "[I", false)
  | 1 => ("PaperRound$HouseText", "size", "I", false)
  | 2 => ("PaperRound$HouseText", "place", "I", false)
  | 3 => ("PaperRound$HouseText", "number", "I", false)
  | 4 => ("PaperRound$HouseText", "nots", "I", false)
  | 5 => ("PaperRound$HouseText", "cushions", "I", false)
  | _ => ("PaperRound$HouseText", "house", "LPaperRound$House;", false)
def tyX1 : Nat → FieldType := fun k => match k with
  | 0 => .array .int
  | 1 => .int
  | 2 => .int
  | 3 => .int
  | 4 => .int
  | 5 => .int
  | _ => .object "PaperRound$House"
abbrev wsX10 : List Cond := u_ws RX1 TX1 7
theorem nmX1 : ∀ a, a < 7 → ∀ b, b < 7 → a ≠ b → (TX1 a).2.1 ≠ (TX1 b).2.1 := by decide +kernel
theorem tyX1_ok : ∀ k, k < 7 → parseFieldDescriptor (TX1 k).2.2.1 = some (tyX1 k) := by decide +kernel
abbrev cX1_init : ByteArray := prog_3_method_1_code
def yX1_init : MethodName := ⟨RX1, "<init>", "()V"⟩
abbrev cX1_take : ByteArray := prog_3_method_2_code
def yX1_take : MethodName := ⟨RX1, "take", "([IILPaperRound$House;)I"⟩
abbrev cX1_look : ByteArray := prog_3_method_3_code
def yX1_look : MethodName := ⟨RX1, "look", "()I"⟩
abbrev cX1_takeSign : ByteArray := prog_3_method_4_code
def yX1_takeSign : MethodName := ⟨RX1, "takeSign", "(C)Z"⟩
abbrev cX1_figure : ByteArray := prog_3_method_5_code
def yX1_figure : MethodName := ⟨RX1, "figure", "()I"⟩
abbrev cX1_takeFigure : ByteArray := prog_3_method_6_code
def yX1_takeFigure : MethodName := ⟨RX1, "takeFigure", "(II)Z"⟩
abbrev cX1_takeMinute : ByteArray := prog_3_method_7_code
def yX1_takeMinute : MethodName := ⟨RX1, "takeMinute", "(II)Z"⟩
abbrev cX1_takeLast : ByteArray := prog_3_method_8_code
def yX1_takeLast : MethodName := ⟨RX1, "takeLast", "()Z"⟩
abbrev cX1_takePart : ByteArray := prog_3_method_9_code
def yX1_takePart : MethodName := ⟨RX1, "takePart", "()Z"⟩
abbrev cX1_takeReader : ByteArray := prog_3_method_10_code
def yX1_takeReader : MethodName := ⟨RX1, "takeReader", "()Z"⟩
abbrev cX1_takeWant : ByteArray := prog_3_method_11_code
def yX1_takeWant : MethodName := ⟨RX1, "takeWant", "()Z"⟩
abbrev cX1_takeNot : ByteArray := prog_3_method_12_code
def yX1_takeNot : MethodName := ⟨RX1, "takeNot", "()Z"⟩
abbrev cX1_takeCushion : ByteArray := prog_3_method_13_code
def yX1_takeCushion : MethodName := ⟨RX1, "takeCushion", "()Z"⟩
def RX2 : String := "PaperRound$Plan"
def TX2 : u_T := fun k => match k with
  | _ => ("PaperRound$Plan", "begins", "[I", true)
def tyX2 : Nat → FieldType := fun k => match k with
  | _ => .array .int
abbrev wsX20 : List Cond := u_ws RX2 TX2 1
theorem nmX2 : ∀ a, a < 1 → ∀ b, b < 1 → a ≠ b → (TX2 a).2.1 ≠ (TX2 b).2.1 := by decide +kernel
theorem tyX2_ok : ∀ k, k < 1 → parseFieldDescriptor (TX2 k).2.2.1 = some (tyX2 k) := by decide +kernel
abbrev cX2_init : ByteArray := prog_4_method_1_code
def yX2_init : MethodName := ⟨RX2, "<init>", "()V"⟩
abbrev cX2_clear : ByteArray := prog_4_method_2_code
def yX2_clear : MethodName := ⟨RX2, "clear", "()V"⟩
abbrev cX2_become : ByteArray := prog_4_method_3_code
def yX2_become : MethodName := ⟨RX2, "become", "([II)V"⟩
abbrev cX2_isBegunAhead : ByteArray := prog_4_method_4_code
def yX2_isBegunAhead : MethodName := ⟨RX2, "isBegunAhead", "(II)Z"⟩
abbrev cX2_begunAhead : ByteArray := prog_4_method_5_code
def yX2_begunAhead : MethodName := ⟨RX2, "begunAhead", "(LPaperRound$House;I)I"⟩
abbrev cX2_isReadIn : ByteArray := prog_4_method_6_code
def yX2_isReadIn : MethodName := ⟨RX2, "isReadIn", "(LPaperRound$House;II)Z"⟩
abbrev cX2_lossOf : ByteArray := prog_4_method_7_code
def yX2_lossOf : MethodName := ⟨RX2, "lossOf", "(LPaperRound$House;I)I"⟩
abbrev cX2_lossOfAll : ByteArray := prog_4_method_8_code
def yX2_lossOfAll : MethodName := ⟨RX2, "lossOfAll", "(LPaperRound$House;)I"⟩
abbrev cX2_lossBy : ByteArray := prog_4_method_9_code
def yX2_lossBy : MethodName := ⟨RX2, "lossBy", "(LPaperRound$House;I)I"⟩
abbrev cX2_firstWrong : ByteArray := prog_4_method_10_code
def yX2_firstWrong : MethodName := ⟨RX2, "firstWrong", "(LPaperRound$House;)I"⟩
abbrev cX2_firstWrongOf : ByteArray := prog_4_method_11_code
def yX2_firstWrongOf : MethodName := ⟨RX2, "firstWrongOf", "(LPaperRound$House;I)I"⟩
abbrev cX2_isCrowded : ByteArray := prog_4_method_12_code
def yX2_isCrowded : MethodName := ⟨RX2, "isCrowded", "(LPaperRound$House;I)Z"⟩
abbrev cX2_isInOrder : ByteArray := prog_4_method_13_code
def yX2_isInOrder : MethodName := ⟨RX2, "isInOrder", "(LPaperRound$House;I)Z"⟩
def RX3 : String := "PaperRound$Round"
def TX3 : u_T := fun k => match k with
  | 0 => ("PaperRound$Round", "house", "LPaperRound$House;", false)
  | 1 => ("PaperRound$Round", "rule", "LPaperRound$Rule;", false)
  | 2 => ("PaperRound$Round", "begins", "[I", false)
  | 3 => ("PaperRound$Round", "begun", "I", false)
  | 4 => ("PaperRound$Round", "freeFrom", "[I", true)
  | 5 => ("PaperRound$Round", "copyEnd", "[I", true)
  | _ => ("PaperRound$Round", "copyReader", "[I", true)
def tyX3 : Nat → FieldType := fun k => match k with
  | 0 => .object "PaperRound$House"
  | 1 => .object "PaperRound$Rule"
  | 2 => .array .int
  | 3 => .int
  | 4 => .array .int
  | 5 => .array .int
  | _ => .array .int
abbrev wsX30 : List Cond := u_ws RX3 TX3 7
theorem nmX3 : ∀ a, a < 7 → ∀ b, b < 7 → a ≠ b → (TX3 a).2.1 ≠ (TX3 b).2.1 := by decide +kernel
theorem tyX3_ok : ∀ k, k < 7 → parseFieldDescriptor (TX3 k).2.2.1 = some (tyX3 k) := by decide +kernel
abbrev cX3_init : ByteArray := prog_5_method_1_code
def yX3_init : MethodName := ⟨RX3, "<init>", "()V"⟩
abbrev cX3_go : ByteArray := prog_5_method_2_code
def yX3_go : MethodName := ⟨RX3, "go", "(LPaperRound$House;LPaperRound$Rule;LPaperRound$Plan;)V"⟩
abbrev cX3_pick : ByteArray := prog_5_method_3_code
def yX3_pick : MethodName := ⟨RX3, "pick", "(I)I"⟩
abbrev cX3_pickByCard : ByteArray := prog_5_method_4_code
def yX3_pickByCard : MethodName := ⟨RX3, "pickByCard", "(I)I"⟩
abbrev cX3_pickNext : ByteArray := prog_5_method_5_code
def yX3_pickNext : MethodName := ⟨RX3, "pickNext", "(I)I"⟩
abbrev cX3_pickDear : ByteArray := prog_5_method_6_code
def yX3_pickDear : MethodName := ⟨RX3, "pickDear", "(I)I"⟩
abbrev cX3_pickShort : ByteArray := prog_5_method_7_code
def yX3_pickShort : MethodName := ⟨RX3, "pickShort", "(I)I"⟩
abbrev cX3_firstOf : ByteArray := prog_5_method_8_code
def yX3_firstOf : MethodName := ⟨RX3, "firstOf", "(II)I"⟩
abbrev cX3_mayBegin : ByteArray := prog_5_method_9_code
def yX3_mayBegin : MethodName := ⟨RX3, "mayBegin", "(II)Z"⟩
abbrev cX3_isThrough : ByteArray := prog_5_method_10_code
def yX3_isThrough : MethodName := ⟨RX3, "isThrough", "(I)Z"⟩
abbrev cX3_freeCopy : ByteArray := prog_5_method_11_code
def yX3_freeCopy : MethodName := ⟨RX3, "freeCopy", "(II)I"⟩
abbrev cX3_begin : ByteArray := prog_5_method_12_code
def yX3_begin : MethodName := ⟨RX3, "begin", "(II)V"⟩
abbrev cX3_letGo : ByteArray := prog_5_method_13_code
def yX3_letGo : MethodName := ⟨RX3, "letGo", "(I)V"⟩
def RX4 : String := "PaperRound$Rule"
def TX4 : u_T := fun k => match k with
  | 0 => ("PaperRound$Rule", "kind", "I", false)
  | _ => ("PaperRound$Rule", "card", "[I", true)
def tyX4 : Nat → FieldType := fun k => match k with
  | 0 => .int
  | _ => .array .int
abbrev wsX40 : List Cond := u_ws RX4 TX4 2
theorem nmX4 : ∀ a, a < 2 → ∀ b, b < 2 → a ≠ b → (TX4 a).2.1 ≠ (TX4 b).2.1 := by decide +kernel
theorem tyX4_ok : ∀ k, k < 2 → parseFieldDescriptor (TX4 k).2.2.1 = some (tyX4 k) := by decide +kernel
abbrev cX4_init : ByteArray := prog_6_method_1_code
def yX4_init : MethodName := ⟨RX4, "<init>", "()V"⟩
abbrev cX4_beginCard : ByteArray := prog_6_method_4_code
def yX4_beginCard : MethodName := ⟨RX4, "beginCard", "(I)V"⟩
abbrev cX4_nextCard : ByteArray := prog_6_method_5_code
def yX4_nextCard : MethodName := ⟨RX4, "nextCard", "(I)Z"⟩
abbrev cX4_swap : ByteArray := prog_6_method_6_code
def yX4_swap : MethodName := ⟨RX4, "swap", "(II)V"⟩
def RX5 : String := "PaperRound$Search"
def TX5 : u_T := fun k => match k with
  | 0 => ("PaperRound$Search", "bestLoss", "I", false)
  | 1 => ("PaperRound$Search", "bestBegins", "[I", true)
  | 2 => ("PaperRound$Search", "house", "LPaperRound$House;", false)
  | 3 => ("PaperRound$Search", "goal", "I", false)
  | 4 => ("PaperRound$Search", "from", "I", false)
  | 5 => ("PaperRound$Search", "ordersCount", "Z", false)
  | 6 => ("PaperRound$Search", "best", "I", false)
  | 7 => ("PaperRound$Search", "loss", "I", false)
  | 8 => ("PaperRound$Search", "placed", "I", false)
  | 9 => ("PaperRound$Search", "todos", "I", false)
  | 10 => ("PaperRound$Search", "todo", "[I", true)
  | 11 => ("PaperRound$Search", "next", "[[I", true)
  | 12 => ("PaperRound$Search", "lossOf", "[I", true)
  | 13 => ("PaperRound$Search", "hopeOf", "[I", true)
  | 14 => ("PaperRound$Search", "begins", "[I", true)
  | 15 => ("PaperRound$Search", "readerEnd", "[I", true)
  | _ => ("PaperRound$Search", "copyEnd", "[I", true)
def tyX5 : Nat → FieldType := fun k => match k with
  | 0 => .int
  | 1 => .array .int
  | 2 => .object "PaperRound$House"
  | 3 => .int
  | 4 => .int
  | 5 => .boolean
  | 6 => .int
  | 7 => .int
  | 8 => .int
  | 9 => .int
  | 10 => .array .int
  | 11 => .array (.array .int)
  | 12 => .array .int
  | 13 => .array .int
  | 14 => .array .int
  | 15 => .array .int
  | _ => .array .int
abbrev wsX50 : List Cond := u_ws RX5 TX5 17
theorem nmX5 : ∀ a, a < 17 → ∀ b, b < 17 → a ≠ b → (TX5 a).2.1 ≠ (TX5 b).2.1 := by decide +kernel
theorem tyX5_ok : ∀ k, k < 17 → parseFieldDescriptor (TX5 k).2.2.1 = some (tyX5 k) := by decide +kernel
abbrev cX5_init : ByteArray := prog_7_method_1_code
def yX5_init : MethodName := ⟨RX5, "<init>", "()V"⟩
abbrev cX5_start : ByteArray := prog_7_method_2_code
def yX5_start : MethodName := ⟨RX5, "start", "(LPaperRound$House;IZ)V"⟩
abbrev cX5_keep : ByteArray := prog_7_method_3_code
def yX5_keep : MethodName := ⟨RX5, "keep", "(II)V"⟩
abbrev cX5_add : ByteArray := prog_7_method_4_code
def yX5_add : MethodName := ⟨RX5, "add", "(I)V"⟩
abbrev cX5_go : ByteArray := prog_7_method_5_code
def yX5_go : MethodName := ⟨RX5, "go", "(I)I"⟩
abbrev cX5_grow : ByteArray := prog_7_method_6_code
def yX5_grow : MethodName := ⟨RX5, "grow", "(LPaperRound$Search;I)V"⟩
abbrev cX5_weigh : ByteArray := prog_7_method_7_code
def yX5_weigh : MethodName := ⟨RX5, "weigh", "(I)V"⟩
abbrev cX5_hope : ByteArray := prog_7_method_8_code
def yX5_hope : MethodName := ⟨RX5, "hope", "(I)I"⟩
abbrev cX5_worst : ByteArray := prog_7_method_9_code
def yX5_worst : MethodName := ⟨RX5, "worst", "([I)I"⟩
abbrev cX5_isNext : ByteArray := prog_7_method_10_code
def yX5_isNext : MethodName := ⟨RX5, "isNext", "(I)Z"⟩
abbrev cX5_earliest : ByteArray := prog_7_method_11_code
def yX5_earliest : MethodName := ⟨RX5, "earliest", "(I)I"⟩
abbrev cX5_firstCopy : ByteArray := prog_7_method_12_code
def yX5_firstCopy : MethodName := ⟨RX5, "firstCopy", "(I)I"⟩
abbrev cX5_place : ByteArray := prog_7_method_13_code
def yX5_place : MethodName := ⟨RX5, "place", "(III)V"⟩
abbrev cX5_takeBack : ByteArray := prog_7_method_14_code
def yX5_takeBack : MethodName := ⟨RX5, "takeBack", "(II)V"⟩
abbrev cX5_miss : ByteArray := prog_7_method_15_code
def yX5_miss : MethodName := ⟨RX5, "miss", "(II)V"⟩
def RX6 : String := "PaperRound$Shelf"
def TX6 : u_T := fun k => match k with
  | 0 => ("PaperRound$Shelf", "places", "[[I", true)
  | _ => ("PaperRound$Shelf", "sizes", "[I", true)
def tyX6 : Nat → FieldType := fun k => match k with
  | 0 => .array (.array .int)
  | _ => .array .int
abbrev wsX60 : List Cond := u_ws RX6 TX6 2
theorem nmX6 : ∀ a, a < 2 → ∀ b, b < 2 → a ≠ b → (TX6 a).2.1 ≠ (TX6 b).2.1 := by decide +kernel
theorem tyX6_ok : ∀ k, k < 2 → parseFieldDescriptor (TX6 k).2.2.1 = some (tyX6 k) := by decide +kernel
abbrev cX6_init : ByteArray := prog_8_method_1_code
def yX6_init : MethodName := ⟨RX6, "<init>", "(II)V"⟩
abbrev cX6_has : ByteArray := prog_8_method_2_code
def yX6_has : MethodName := ⟨RX6, "has", "(I)Z"⟩
abbrev cX6_isMissing : ByteArray := prog_8_method_3_code
def yX6_isMissing : MethodName := ⟨RX6, "isMissing", "(I)Z"⟩
abbrev cX6_lackAt : ByteArray := prog_8_method_4_code
def yX6_lackAt : MethodName := ⟨RX6, "lackAt", "(II)I"⟩
abbrev cX6_begin : ByteArray := prog_8_method_6_code
def yX6_begin : MethodName := ⟨RX6, "begin", "(III)V"⟩
def RX7 : String := "PaperRound"
def TX7 : u_T := fun k => match k with
  | 0 => ("PaperRound", "rows", "LPaperRound$Shelf;", true)
  | 1 => ("PaperRound", "texts", "LPaperRound$Shelf;", true)
  | 2 => ("PaperRound", "houseText", "LPaperRound$HouseText;", true)
  | 3 => ("PaperRound", "plan", "LPaperRound$Plan;", true)
  | 4 => ("PaperRound", "trialPlan", "LPaperRound$Plan;", true)
  | 5 => ("PaperRound", "rules", "[LPaperRound$Rule;", true)
  | 6 => ("PaperRound", "trialRule", "LPaperRound$Rule;", true)
  | 7 => ("PaperRound", "round", "LPaperRound$Round;", true)
  | 8 => ("PaperRound", "search", "LPaperRound$Search;", true)
  | 9 => ("PaperRound", "findings", "[I", true)
  | 10 => ("PaperRound", "house", "LPaperRound$House;", false)
  | 11 => ("PaperRound", "draft", "LPaperRound$House;", false)
  | 12 => ("PaperRound", "finding", "I", false)
  | _ => ("PaperRound", "asked", "I", false)
def tyX7 : Nat → FieldType := fun k => match k with
  | 0 => .object "PaperRound$Shelf"
  | 1 => .object "PaperRound$Shelf"
  | 2 => .object "PaperRound$HouseText"
  | 3 => .object "PaperRound$Plan"
  | 4 => .object "PaperRound$Plan"
  | 5 => .array (.object "PaperRound$Rule")
  | 6 => .object "PaperRound$Rule"
  | 7 => .object "PaperRound$Round"
  | 8 => .object "PaperRound$Search"
  | 9 => .array .int
  | 10 => .object "PaperRound$House"
  | 11 => .object "PaperRound$House"
  | 12 => .int
  | _ => .int
abbrev wsX70 : List Cond := u_ws RX7 TX7 14
theorem nmX7 : ∀ a, a < 14 → ∀ b, b < 14 → a ≠ b → (TX7 a).2.1 ≠ (TX7 b).2.1 := by decide +kernel
theorem tyX7_ok : ∀ k, k < 14 → parseFieldDescriptor (TX7 k).2.2.1 = some (tyX7 k) := by decide +kernel
abbrev cX7_init : ByteArray := prog_1_method_1_code
def yX7_init : MethodName := ⟨RX7, "<init>", "()V"⟩
abbrev cX7_text : ByteArray := prog_1_method_8_code
def yX7_text : MethodName := ⟨RX7, "text", "(II)I"⟩
abbrev cX7_put : ByteArray := prog_1_method_9_code
def yX7_put : MethodName := ⟨RX7, "put", "(III)I"⟩
abbrev cX7_fault : ByteArray := prog_1_method_10_code
def yX7_fault : MethodName := ⟨RX7, "fault", "(I)I"⟩
abbrev cX7_house : ByteArray := prog_1_method_11_code
def yX7_house : MethodName := ⟨RX7, "house", "(I)I"⟩
abbrev cX7_copies : ByteArray := prog_1_method_15_code
def yX7_copies : MethodName := ⟨RX7, "copies", "(II)I"⟩
abbrev cX7_late : ByteArray := prog_1_method_17_code
def yX7_late : MethodName := ⟨RX7, "late", "(III)I"⟩
abbrev cX7_judge : ByteArray := prog_1_method_19_code
def yX7_judge : MethodName := ⟨RX7, "judge", "()I"⟩
abbrev cX7_missed : ByteArray := prog_1_method_20_code
def yX7_missed : MethodName := ⟨RX7, "missed", "(I)I"⟩
abbrev cX7_image : ByteArray := prog_1_method_23_code
def yX7_image : MethodName := ⟨RX7, "image", "(I)I"⟩
abbrev cX7_on : ByteArray := prog_1_method_24_code
def yX7_on : MethodName := ⟨RX7, "on", "(I)I"⟩
abbrev cX7_rule : ByteArray := prog_1_method_25_code
def yX7_rule : MethodName := ⟨RX7, "rule", "(III)I"⟩
abbrev cX7_run : ByteArray := prog_1_method_27_code
def yX7_run : MethodName := ⟨RX7, "run", "(I)I"⟩
abbrev cX7_best : ByteArray := prog_1_method_28_code
def yX7_best : MethodName := ⟨RX7, "best", "(I)I"⟩
abbrev cX7_least : ByteArray := prog_1_method_29_code
def yX7_least : MethodName := ⟨RX7, "least", "()I"⟩
abbrev cX7_mend : ByteArray := prog_1_method_30_code
def yX7_mend : MethodName := ⟨RX7, "mend", "(I)I"⟩
abbrev cX7_soon : ByteArray := prog_1_method_31_code
def yX7_soon : MethodName := ⟨RX7, "soon", "()I"⟩
abbrev cX7_even : ByteArray := prog_1_method_32_code
def yX7_even : MethodName := ⟨RX7, "even", "()I"⟩
abbrev cX7_bound : ByteArray := prog_1_method_33_code
def yX7_bound : MethodName := ⟨RX7, "bound", "()I"⟩
abbrev cX7_quarrel : ByteArray := prog_1_method_34_code
def yX7_quarrel : MethodName := ⟨RX7, "quarrel", "()I"⟩
abbrev cX7_asked : ByteArray := prog_1_method_36_code
def yX7_asked : MethodName := ⟨RX7, "asked", "()I"⟩
abbrev cX7_found : ByteArray := prog_1_method_41_code
def yX7_found : MethodName := ⟨RX7, "found", "(I)I"⟩
abbrev cX7_isBeginning : ByteArray := prog_1_method_42_code
def yX7_isBeginning : MethodName := ⟨RX7, "isBeginning", "(I)Z"⟩
abbrev cX7_lackOfCard : ByteArray := prog_1_method_44_code
def yX7_lackOfCard : MethodName := ⟨RX7, "lackOfCard", "(I)I"⟩
abbrev cX7_searchAll : ByteArray := prog_1_method_46_code
def yX7_searchAll : MethodName := ⟨RX7, "searchAll", "(I)I"⟩
abbrev cX7_canAllHaveAll : ByteArray := prog_1_method_47_code
def yX7_canAllHaveAll : MethodName := ⟨RX7, "canAllHaveAll", "(I)Z"⟩
abbrev cX7_keepAhead : ByteArray := prog_1_method_48_code
def yX7_keepAhead : MethodName := ⟨RX7, "keepAhead", "(I)V"⟩
def RX8 : String := "PaperRoundModel"
def TX8 : u_T := fun k => match k with
  | _ => ("", "", "", false)
def tyX8 : Nat → FieldType := fun k => match k with
  | _ => .int
abbrev wsX80 : List Cond := u_ws RX8 TX8 0
theorem nmX8 : ∀ a, a < 0 → ∀ b, b < 0 → a ≠ b → (TX8 a).2.1 ≠ (TX8 b).2.1 := by decide +kernel
theorem tyX8_ok : ∀ k, k < 0 → parseFieldDescriptor (TX8 k).2.2.1 = some (tyX8 k) := by decide +kernel
def RJ9 : String := "java/lang/Math"
def RJ10 : String := "java/lang/System"
def RL : String := "PaperRoundLaw"
abbrev cL_cell : ByteArray := method_2_code
def yL_cell : MethodName := ⟨RL, "cell", "([II)I"⟩
abbrev cL_put : ByteArray := method_3_code
def yL_put : MethodName := ⟨RL, "put", "(LPaperRound;II)I"⟩
abbrev cL_number : ByteArray := method_4_code
def yL_number : MethodName := ⟨RL, "number", "(LPaperRound;II)I"⟩
abbrev cL_numbers : ByteArray := method_5_code
def yL_numbers : MethodName := ⟨RL, "numbers", "([IIIIIZ[I[I)V"⟩
abbrev cL_house : ByteArray := method_6_code
def yL_house : MethodName := ⟨RL, "house", "(LPaperRound;[I[I)Z"⟩
abbrev cL_law : ByteArray := code
def yL_law : MethodName := ⟨RL, "law", "([I)Z"⟩
abbrev vwCl : List vw_C := [(RX0, TX0, 19), (RX1, TX1, 7), (RX2, TX2, 1), (RX3, TX3, 7), (RX4, TX4, 2), (RX5, TX5, 17), (RX6, TX6, 2), (RX7, TX7, 14)]
