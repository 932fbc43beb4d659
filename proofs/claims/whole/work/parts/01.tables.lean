-- ===== PART A: goes FIRST, ahead of the names: the tables' words, and 'selects' of the private methods out of them =====
/-- a private method of a class that the tables say can be made, by its rows of tables_1 -/
def lw_okq (q : MethodName × Nat) : Prop := (q.1.cls ≠ "java/lang/invoke/MethodHandle" ∧ q.1.cls ≠ "java/lang/invoke/VarHandle") ∧ Cond.instantiable q.1.cls q.2 ∈ tables_1 ∧ Cond.privateMethod q.1 ∈ tables_1 ∧ Cond.instanceMethod q.1 ∈ tables_1
theorem lw_p0 : lw_okq (⟨"TurnCounts$Group", "add", "(I)V"⟩, 5) := ⟨⟨by decide +kernel, by decide +kernel⟩, List.mem_of_getElem? (i := 27) (by decide +kernel), List.mem_of_getElem? (i := 38) (by decide +kernel), List.mem_of_getElem? (i := 39) (by decide +kernel)⟩
theorem lw_p1 : lw_okq (⟨"TurnCounts", "forgetGroup", "()V"⟩, 6) := ⟨⟨by decide +kernel, by decide +kernel⟩, List.mem_of_getElem? (i := 13) (by decide +kernel), List.mem_of_getElem? (i := 206) (by decide +kernel), List.mem_of_getElem? (i := 207) (by decide +kernel)⟩
theorem lw_p2 : lw_okq (⟨"TurnCounts$Group", "addCopy", "(II)V"⟩, 5) := ⟨⟨by decide +kernel, by decide +kernel⟩, List.mem_of_getElem? (i := 27) (by decide +kernel), List.mem_of_getElem? (i := 239) (by decide +kernel), List.mem_of_getElem? (i := 240) (by decide +kernel)⟩
theorem lw_p3 : lw_okq (⟨"TurnCounts$TypeTable", "add", "(I)V"⟩, 4) := ⟨⟨by decide +kernel, by decide +kernel⟩, List.mem_of_getElem? (i := 122) (by decide +kernel), List.mem_of_getElem? (i := 296) (by decide +kernel), List.mem_of_getElem? (i := 297) (by decide +kernel)⟩
theorem lw_p4 : lw_okq (⟨"TurnCounts$TypeTable", "insert", "(II)V"⟩, 4) := ⟨⟨by decide +kernel, by decide +kernel⟩, List.mem_of_getElem? (i := 122) (by decide +kernel), List.mem_of_getElem? (i := 300) (by decide +kernel), List.mem_of_getElem? (i := 301) (by decide +kernel)⟩
theorem lw_p5 : lw_okq (⟨"TurnCounts$PatternTable", "setPlaces", "(LTurnCounts$Setting;)V"⟩, 9) := ⟨⟨by decide +kernel, by decide +kernel⟩, List.mem_of_getElem? (i := 145) (by decide +kernel), List.mem_of_getElem? (i := 334) (by decide +kernel), List.mem_of_getElem? (i := 335) (by decide +kernel)⟩
theorem lw_p6 : lw_okq (⟨"TurnCounts$PatternTable", "gather", "(ILTurnCounts$Group;)V"⟩, 9) := ⟨⟨by decide +kernel, by decide +kernel⟩, List.mem_of_getElem? (i := 145) (by decide +kernel), List.mem_of_getElem? (i := 345) (by decide +kernel), List.mem_of_getElem? (i := 346) (by decide +kernel)⟩
theorem lw_p7 : lw_okq (⟨"TurnCounts$PatternTable", "put", "(I)V"⟩, 9) := ⟨⟨by decide +kernel, by decide +kernel⟩, List.mem_of_getElem? (i := 145) (by decide +kernel), List.mem_of_getElem? (i := 349) (by decide +kernel), List.mem_of_getElem? (i := 350) (by decide +kernel)⟩
theorem lw_p8 : lw_okq (⟨"TurnCounts$PatternTable", "turned", "(II)I"⟩, 9) := ⟨⟨by decide +kernel, by decide +kernel⟩, List.mem_of_getElem? (i := 145) (by decide +kernel), List.mem_of_getElem? (i := 354) (by decide +kernel), List.mem_of_getElem? (i := 355) (by decide +kernel)⟩
theorem lw_p9 : lw_okq (⟨"TurnCounts$Setting", "isReadable", "(I)Z"⟩, 4) := ⟨⟨by decide +kernel, by decide +kernel⟩, List.mem_of_getElem? (i := 21) (by decide +kernel), List.mem_of_getElem? (i := 371) (by decide +kernel), List.mem_of_getElem? (i := 372) (by decide +kernel)⟩
theorem lw_p10 : lw_okq (⟨"TurnCounts", "isNumber", "(I)Z"⟩, 6) := ⟨⟨by decide +kernel, by decide +kernel⟩, List.mem_of_getElem? (i := 13) (by decide +kernel), List.mem_of_getElem? (i := 407) (by decide +kernel), List.mem_of_getElem? (i := 408) (by decide +kernel)⟩
theorem lw_p11 : lw_okq (⟨"TurnCountsModel", "beginGroup", "()V"⟩, 25) := ⟨⟨by decide +kernel, by decide +kernel⟩, List.mem_of_getElem? (i := 477) (by decide +kernel), List.mem_of_getElem? (i := 484) (by decide +kernel), List.mem_of_getElem? (i := 485) (by decide +kernel)⟩
theorem lw_p12 : lw_okq (⟨"TurnCountsModel", "closeGroup", "()V"⟩, 25) := ⟨⟨by decide +kernel, by decide +kernel⟩, List.mem_of_getElem? (i := 477) (by decide +kernel), List.mem_of_getElem? (i := 488) (by decide +kernel), List.mem_of_getElem? (i := 489) (by decide +kernel)⟩
theorem lw_p13 : lw_okq (⟨"TurnCountsModel", "layStill", "()V"⟩, 25) := ⟨⟨by decide +kernel, by decide +kernel⟩, List.mem_of_getElem? (i := 477) (by decide +kernel), List.mem_of_getElem? (i := 492) (by decide +kernel), List.mem_of_getElem? (i := 493) (by decide +kernel)⟩
theorem lw_p14 : lw_okq (⟨"TurnCountsModel", "many", "()I"⟩, 25) := ⟨⟨by decide +kernel, by decide +kernel⟩, List.mem_of_getElem? (i := 477) (by decide +kernel), List.mem_of_getElem? (i := 496) (by decide +kernel), List.mem_of_getElem? (i := 497) (by decide +kernel)⟩
theorem lw_p15 : lw_okq (⟨"TurnCountsModel", "rank", "()I"⟩, 25) := ⟨⟨by decide +kernel, by decide +kernel⟩, List.mem_of_getElem? (i := 477) (by decide +kernel), List.mem_of_getElem? (i := 500) (by decide +kernel), List.mem_of_getElem? (i := 501) (by decide +kernel)⟩
def lw_privs_1 : List (MethodName × Nat) := [(⟨"TurnCounts$Group", "add", "(I)V"⟩, 5), (⟨"TurnCounts", "forgetGroup", "()V"⟩, 6), (⟨"TurnCounts$Group", "addCopy", "(II)V"⟩, 5), (⟨"TurnCounts$TypeTable", "add", "(I)V"⟩, 4), (⟨"TurnCounts$TypeTable", "insert", "(II)V"⟩, 4), (⟨"TurnCounts$PatternTable", "setPlaces", "(LTurnCounts$Setting;)V"⟩, 9), (⟨"TurnCounts$PatternTable", "gather", "(ILTurnCounts$Group;)V"⟩, 9), (⟨"TurnCounts$PatternTable", "put", "(I)V"⟩, 9), (⟨"TurnCounts$PatternTable", "turned", "(II)I"⟩, 9), (⟨"TurnCounts$Setting", "isReadable", "(I)Z"⟩, 4), (⟨"TurnCounts", "isNumber", "(I)Z"⟩, 6), (⟨"TurnCountsModel", "beginGroup", "()V"⟩, 25), (⟨"TurnCountsModel", "closeGroup", "()V"⟩, 25), (⟨"TurnCountsModel", "layStill", "()V"⟩, 25), (⟨"TurnCountsModel", "many", "()I"⟩, 25), (⟨"TurnCountsModel", "rank", "()I"⟩, 25)]
theorem lw_r1 : ∀ q ∈ lw_privs_1, lw_okq q := List.forall_mem_cons.mpr ⟨lw_p0, List.forall_mem_cons.mpr ⟨lw_p1, List.forall_mem_cons.mpr ⟨lw_p2, List.forall_mem_cons.mpr ⟨lw_p3, List.forall_mem_cons.mpr ⟨lw_p4, List.forall_mem_cons.mpr ⟨lw_p5, List.forall_mem_cons.mpr ⟨lw_p6, List.forall_mem_cons.mpr ⟨lw_p7, List.forall_mem_cons.mpr ⟨lw_p8, List.forall_mem_cons.mpr ⟨lw_p9, List.forall_mem_cons.mpr ⟨lw_p10, List.forall_mem_cons.mpr ⟨lw_p11, List.forall_mem_cons.mpr ⟨lw_p12, List.forall_mem_cons.mpr ⟨lw_p13, List.forall_mem_cons.mpr ⟨lw_p14, List.forall_mem_cons.mpr ⟨lw_p15, fun _ h => absurd h List.not_mem_nil⟩⟩⟩⟩⟩⟩⟩⟩⟩⟩⟩⟩⟩⟩⟩⟩
theorem lw_p16 : lw_okq (⟨"TurnCountsModel", "meet", "(I)V"⟩, 25) := ⟨⟨by decide +kernel, by decide +kernel⟩, List.mem_of_getElem? (i := 477) (by decide +kernel), List.mem_of_getElem? (i := 504) (by decide +kernel), List.mem_of_getElem? (i := 505) (by decide +kernel)⟩
theorem lw_p17 : lw_okq (⟨"TurnCountsModel", "layRank", "(I)V"⟩, 25) := ⟨⟨by decide +kernel, by decide +kernel⟩, List.mem_of_getElem? (i := 477) (by decide +kernel), List.mem_of_getElem? (i := 508) (by decide +kernel), List.mem_of_getElem? (i := 509) (by decide +kernel)⟩
theorem lw_p18 : lw_okq (⟨"TurnCountsModel", "layTurns", "()V"⟩, 25) := ⟨⟨by decide +kernel, by decide +kernel⟩, List.mem_of_getElem? (i := 477) (by decide +kernel), List.mem_of_getElem? (i := 512) (by decide +kernel), List.mem_of_getElem? (i := 513) (by decide +kernel)⟩
theorem lw_p19 : lw_okq (⟨"TurnCountsModel", "addKind", "(IIII)V"⟩, 25) := ⟨⟨by decide +kernel, by decide +kernel⟩, List.mem_of_getElem? (i := 477) (by decide +kernel), List.mem_of_getElem? (i := 607) (by decide +kernel), List.mem_of_getElem? (i := 608) (by decide +kernel)⟩
theorem lw_p20 : lw_okq (⟨"TurnCountsModel", "addRound", "(III)V"⟩, 25) := ⟨⟨by decide +kernel, by decide +kernel⟩, List.mem_of_getElem? (i := 477) (by decide +kernel), List.mem_of_getElem? (i := 611) (by decide +kernel), List.mem_of_getElem? (i := 612) (by decide +kernel)⟩
theorem lw_p21 : lw_okq (⟨"TurnCountsModel", "bring", "(IIII)V"⟩, 25) := ⟨⟨by decide +kernel, by decide +kernel⟩, List.mem_of_getElem? (i := 477) (by decide +kernel), List.mem_of_getElem? (i := 615) (by decide +kernel), List.mem_of_getElem? (i := 616) (by decide +kernel)⟩
theorem lw_p22 : lw_okq (⟨"TurnCountsModel", "addMaker", "()V"⟩, 25) := ⟨⟨by decide +kernel, by decide +kernel⟩, List.mem_of_getElem? (i := 477) (by decide +kernel), List.mem_of_getElem? (i := 619) (by decide +kernel), List.mem_of_getElem? (i := 620) (by decide +kernel)⟩
theorem lw_p23 : lw_okq (⟨"TurnCountsModel", "addFlip", "(III)V"⟩, 25) := ⟨⟨by decide +kernel, by decide +kernel⟩, List.mem_of_getElem? (i := 477) (by decide +kernel), List.mem_of_getElem? (i := 623) (by decide +kernel), List.mem_of_getElem? (i := 624) (by decide +kernel)⟩
theorem lw_p24 : lw_okq (⟨"TurnCountsModel", "addNext", "(IIII)V"⟩, 25) := ⟨⟨by decide +kernel, by decide +kernel⟩, List.mem_of_getElem? (i := 477) (by decide +kernel), List.mem_of_getElem? (i := 627) (by decide +kernel), List.mem_of_getElem? (i := 628) (by decide +kernel)⟩
theorem lw_p25 : lw_okq (⟨"TurnCountsModel", "layPad", "()Z"⟩, 25) := ⟨⟨by decide +kernel, by decide +kernel⟩, List.mem_of_getElem? (i := 477) (by decide +kernel), List.mem_of_getElem? (i := 647) (by decide +kernel), List.mem_of_getElem? (i := 648) (by decide +kernel)⟩
theorem lw_p26 : lw_okq (⟨"TurnCountsModel", "typeOfRow", "()I"⟩, 25) := ⟨⟨by decide +kernel, by decide +kernel⟩, List.mem_of_getElem? (i := 477) (by decide +kernel), List.mem_of_getElem? (i := 655) (by decide +kernel), List.mem_of_getElem? (i := 656) (by decide +kernel)⟩
theorem lw_p27 : lw_okq (⟨"TurnCountsModel", "layTypes", "()V"⟩, 25) := ⟨⟨by decide +kernel, by decide +kernel⟩, List.mem_of_getElem? (i := 477) (by decide +kernel), List.mem_of_getElem? (i := 669) (by decide +kernel), List.mem_of_getElem? (i := 670) (by decide +kernel)⟩
theorem lw_p28 : lw_okq (⟨"TurnCountsModel", "layTurn", "(I)V"⟩, 25) := ⟨⟨by decide +kernel, by decide +kernel⟩, List.mem_of_getElem? (i := 477) (by decide +kernel), List.mem_of_getElem? (i := 673) (by decide +kernel), List.mem_of_getElem? (i := 674) (by decide +kernel)⟩
theorem lw_p29 : lw_okq (⟨"TurnCountsModel", "addType", "(I)V"⟩, 25) := ⟨⟨by decide +kernel, by decide +kernel⟩, List.mem_of_getElem? (i := 477) (by decide +kernel), List.mem_of_getElem? (i := 677) (by decide +kernel), List.mem_of_getElem? (i := 678) (by decide +kernel)⟩
theorem lw_p30 : lw_okq (⟨"TurnCountsModel", "isPoint", "(I)Z"⟩, 25) := ⟨⟨by decide +kernel, by decide +kernel⟩, List.mem_of_getElem? (i := 477) (by decide +kernel), List.mem_of_getElem? (i := 685) (by decide +kernel), List.mem_of_getElem? (i := 686) (by decide +kernel)⟩
theorem lw_p31 : lw_okq (⟨"TurnCountsModel", "layPatterns", "()V"⟩, 25) := ⟨⟨by decide +kernel, by decide +kernel⟩, List.mem_of_getElem? (i := 477) (by decide +kernel), List.mem_of_getElem? (i := 701) (by decide +kernel), List.mem_of_getElem? (i := 702) (by decide +kernel)⟩
def lw_privs_2 : List (MethodName × Nat) := [(⟨"TurnCountsModel", "meet", "(I)V"⟩, 25), (⟨"TurnCountsModel", "layRank", "(I)V"⟩, 25), (⟨"TurnCountsModel", "layTurns", "()V"⟩, 25), (⟨"TurnCountsModel", "addKind", "(IIII)V"⟩, 25), (⟨"TurnCountsModel", "addRound", "(III)V"⟩, 25), (⟨"TurnCountsModel", "bring", "(IIII)V"⟩, 25), (⟨"TurnCountsModel", "addMaker", "()V"⟩, 25), (⟨"TurnCountsModel", "addFlip", "(III)V"⟩, 25), (⟨"TurnCountsModel", "addNext", "(IIII)V"⟩, 25), (⟨"TurnCountsModel", "layPad", "()Z"⟩, 25), (⟨"TurnCountsModel", "typeOfRow", "()I"⟩, 25), (⟨"TurnCountsModel", "layTypes", "()V"⟩, 25), (⟨"TurnCountsModel", "layTurn", "(I)V"⟩, 25), (⟨"TurnCountsModel", "addType", "(I)V"⟩, 25), (⟨"TurnCountsModel", "isPoint", "(I)Z"⟩, 25), (⟨"TurnCountsModel", "layPatterns", "()V"⟩, 25)]
theorem lw_r2 : ∀ q ∈ lw_privs_2, lw_okq q := List.forall_mem_cons.mpr ⟨lw_p16, List.forall_mem_cons.mpr ⟨lw_p17, List.forall_mem_cons.mpr ⟨lw_p18, List.forall_mem_cons.mpr ⟨lw_p19, List.forall_mem_cons.mpr ⟨lw_p20, List.forall_mem_cons.mpr ⟨lw_p21, List.forall_mem_cons.mpr ⟨lw_p22, List.forall_mem_cons.mpr ⟨lw_p23, List.forall_mem_cons.mpr ⟨lw_p24, List.forall_mem_cons.mpr ⟨lw_p25, List.forall_mem_cons.mpr ⟨lw_p26, List.forall_mem_cons.mpr ⟨lw_p27, List.forall_mem_cons.mpr ⟨lw_p28, List.forall_mem_cons.mpr ⟨lw_p29, List.forall_mem_cons.mpr ⟨lw_p30, List.forall_mem_cons.mpr ⟨lw_p31, fun _ h => absurd h List.not_mem_nil⟩⟩⟩⟩⟩⟩⟩⟩⟩⟩⟩⟩⟩⟩⟩⟩
theorem lw_p32 : lw_okq (⟨"TurnCountsModel", "layWorths", "()V"⟩, 25) := ⟨⟨by decide +kernel, by decide +kernel⟩, List.mem_of_getElem? (i := 477) (by decide +kernel), List.mem_of_getElem? (i := 705) (by decide +kernel), List.mem_of_getElem? (i := 706) (by decide +kernel)⟩
theorem lw_p33 : lw_okq (⟨"TurnCountsModel", "strike", "(I)V"⟩, 25) := ⟨⟨by decide +kernel, by decide +kernel⟩, List.mem_of_getElem? (i := 477) (by decide +kernel), List.mem_of_getElem? (i := 709) (by decide +kernel), List.mem_of_getElem? (i := 710) (by decide +kernel)⟩
theorem lw_p34 : lw_okq (⟨"TurnCountsModel", "layColours", "(I)V"⟩, 25) := ⟨⟨by decide +kernel, by decide +kernel⟩, List.mem_of_getElem? (i := 477) (by decide +kernel), List.mem_of_getElem? (i := 713) (by decide +kernel), List.mem_of_getElem? (i := 714) (by decide +kernel)⟩
theorem lw_p35 : lw_okq (⟨"TurnCountsModel", "turned", "(I)I"⟩, 25) := ⟨⟨by decide +kernel, by decide +kernel⟩, List.mem_of_getElem? (i := 477) (by decide +kernel), List.mem_of_getElem? (i := 717) (by decide +kernel), List.mem_of_getElem? (i := 718) (by decide +kernel)⟩
theorem lw_p36 : lw_okq (⟨"TurnCountsModel", "weightOf", "(I)I"⟩, 25) := ⟨⟨by decide +kernel, by decide +kernel⟩, List.mem_of_getElem? (i := 477) (by decide +kernel), List.mem_of_getElem? (i := 721) (by decide +kernel), List.mem_of_getElem? (i := 722) (by decide +kernel)⟩
theorem lw_p37 : lw_okq (⟨"TurnCountsModel", "twin", "(I)I"⟩, 25) := ⟨⟨by decide +kernel, by decide +kernel⟩, List.mem_of_getElem? (i := 477) (by decide +kernel), List.mem_of_getElem? (i := 729) (by decide +kernel), List.mem_of_getElem? (i := 730) (by decide +kernel)⟩
theorem lw_p38 : lw_okq (⟨"TurnCountsModel", "mirrored", "(I)I"⟩, 25) := ⟨⟨by decide +kernel, by decide +kernel⟩, List.mem_of_getElem? (i := 477) (by decide +kernel), List.mem_of_getElem? (i := 733) (by decide +kernel), List.mem_of_getElem? (i := 734) (by decide +kernel)⟩
theorem lw_p39 : lw_okq (⟨"TurnCountsModel", "coloursOf", "(I)I"⟩, 25) := ⟨⟨by decide +kernel, by decide +kernel⟩, List.mem_of_getElem? (i := 477) (by decide +kernel), List.mem_of_getElem? (i := 737) (by decide +kernel), List.mem_of_getElem? (i := 738) (by decide +kernel)⟩
theorem lw_p40 : lw_okq (⟨"TurnCountsModel", "isNumber", "(I)Z"⟩, 25) := ⟨⟨by decide +kernel, by decide +kernel⟩, List.mem_of_getElem? (i := 477) (by decide +kernel), List.mem_of_getElem? (i := 745) (by decide +kernel), List.mem_of_getElem? (i := 746) (by decide +kernel)⟩
theorem lw_p41 : lw_okq (⟨"TurnCountsModel", "isOf", "(II)Z"⟩, 25) := ⟨⟨by decide +kernel, by decide +kernel⟩, List.mem_of_getElem? (i := 477) (by decide +kernel), List.mem_of_getElem? (i := 753) (by decide +kernel), List.mem_of_getElem? (i := 754) (by decide +kernel)⟩
def lw_privs_3 : List (MethodName × Nat) := [(⟨"TurnCountsModel", "layWorths", "()V"⟩, 25), (⟨"TurnCountsModel", "strike", "(I)V"⟩, 25), (⟨"TurnCountsModel", "layColours", "(I)V"⟩, 25), (⟨"TurnCountsModel", "turned", "(I)I"⟩, 25), (⟨"TurnCountsModel", "weightOf", "(I)I"⟩, 25), (⟨"TurnCountsModel", "twin", "(I)I"⟩, 25), (⟨"TurnCountsModel", "mirrored", "(I)I"⟩, 25), (⟨"TurnCountsModel", "coloursOf", "(I)I"⟩, 25), (⟨"TurnCountsModel", "isNumber", "(I)Z"⟩, 25), (⟨"TurnCountsModel", "isOf", "(II)Z"⟩, 25)]
theorem lw_r3 : ∀ q ∈ lw_privs_3, lw_okq q := List.forall_mem_cons.mpr ⟨lw_p32, List.forall_mem_cons.mpr ⟨lw_p33, List.forall_mem_cons.mpr ⟨lw_p34, List.forall_mem_cons.mpr ⟨lw_p35, List.forall_mem_cons.mpr ⟨lw_p36, List.forall_mem_cons.mpr ⟨lw_p37, List.forall_mem_cons.mpr ⟨lw_p38, List.forall_mem_cons.mpr ⟨lw_p39, List.forall_mem_cons.mpr ⟨lw_p40, List.forall_mem_cons.mpr ⟨lw_p41, fun _ h => absurd h List.not_mem_nil⟩⟩⟩⟩⟩⟩⟩⟩⟩⟩
def lw_privs : List (MethodName × Nat) := lw_privs_1 ++ (lw_privs_2 ++ (lw_privs_3))
def lw_tbl : List Cond := k2_sels lw_privs ++ tables_1
theorem lw_privs_ok : ∀ q ∈ lw_privs, lw_okq q := by
  show ∀ q ∈ lw_privs_1 ++ (lw_privs_2 ++ (lw_privs_3)), lw_okq q
  exact List.forall_mem_append.mpr ⟨lw_r1, List.forall_mem_append.mpr ⟨lw_r2, lw_r3⟩⟩
def rr_G : String := "TurnCounts$Group"
def rr_D : String := "TurnCounts$Pad"
def rr_P : String := "TurnCounts$PatternTable"
def rr_S : String := "TurnCounts$Setting"
def rr_U : String := "TurnCounts$Turns"
def rr_Y : String := "TurnCounts$TypeTable"
def rr_T : String := "TurnCounts"
def rr_M : String := "TurnCountsModel"
def rr_L : String := "TurnCountsLaw"
def rr_J : String := "java/lang/Integer"
def rr_A : String := "java/lang/Math"
def rr_O : String := "java/lang/Object"
def rr_Z : String := "java/lang/System"
def ft_G : u_T := fun k => match k with
  | 0 => ("TurnCounts$Group", "turns", "[I", true)
  | 1 => ("TurnCounts$Group", "size", "I", false)
  | 2 => ("TurnCounts$Group", "makers", "[I", true)
  | 3 => ("TurnCounts$Group", "makerCount", "I", false)
  | _ => ("TurnCounts$Group", "members", "[I", true)
def fy_G : Nat → FieldType := fun k => match k with
  | 0 => .array .int
  | 1 => .int
  | 2 => .array .int
  | 3 => .int
  | _ => .array .int
theorem fn_G : ∀ a, a < 5 → ∀ b, b < 5 → a ≠ b → (ft_G a).2.1 ≠ (ft_G b).2.1 := by decide +kernel
theorem fk_G : ∀ k, k < 5 → parseFieldDescriptor (ft_G k).2.2.1 = some (fy_G k) := by decide +kernel
def ft_D : u_T := fun k => match k with
  | 0 => ("TurnCounts$Pad", "signs", "[I", true)
  | _ => ("TurnCounts$Pad", "length", "I", false)
def fy_D : Nat → FieldType := fun k => match k with
  | 0 => .array .int
  | _ => .int
theorem fn_D : ∀ a, a < 2 → ∀ b, b < 2 → a ≠ b → (ft_D a).2.1 ≠ (ft_D b).2.1 := by decide +kernel
theorem fk_D : ∀ k, k < 2 → parseFieldDescriptor (ft_D k).2.2.1 = some (fy_D k) := by decide +kernel
def ft_P : u_T := fun k => match k with
  | 0 => ("TurnCounts$PatternTable", "patternNumbers", "[I", true)
  | 1 => ("TurnCounts$PatternTable", "colourings", "[I", true)
  | 2 => ("TurnCounts$PatternTable", "starts", "[I", true)
  | 3 => ("TurnCounts$PatternTable", "places", "[I", true)
  | 4 => ("TurnCounts$PatternTable", "many", "I", false)
  | 5 => ("TurnCounts$PatternTable", "sortCount", "I", false)
  | 6 => ("TurnCounts$PatternTable", "filled", "I", false)
  | 7 => ("TurnCounts$PatternTable", "amount", "I", false)
  | _ => ("TurnCounts$PatternTable", "upToDate", "Z", false)
def fy_P : Nat → FieldType := fun k => match k with
  | 0 => .array .int
  | 1 => .array .int
  | 2 => .array .int
  | 3 => .array .int
  | 4 => .int
  | 5 => .int
  | 6 => .int
  | 7 => .int
  | _ => .boolean
theorem fn_P : ∀ a, a < 9 → ∀ b, b < 9 → a ≠ b → (ft_P a).2.1 ≠ (ft_P b).2.1 := by decide +kernel
theorem fk_P : ∀ k, k < 9 → parseFieldDescriptor (ft_P k).2.2.1 = some (fy_P k) := by decide +kernel
def ft_S : u_T := fun k => match k with
  | 0 => ("TurnCounts$Setting", "many", "I", false)
  | 1 => ("TurnCounts$Setting", "sortCount", "I", false)
  | 2 => ("TurnCounts$Setting", "weights", "[I", true)
  | _ => ("TurnCounts$Setting", "group", "LTurnCounts$Group;", true)
def fy_S : Nat → FieldType := fun k => match k with
  | 0 => .int
  | 1 => .int
  | 2 => .array .int
  | _ => .object "TurnCounts$Group"
theorem fn_S : ∀ a, a < 4 → ∀ b, b < 4 → a ≠ b → (ft_S a).2.1 ≠ (ft_S b).2.1 := by decide +kernel
theorem fk_S : ∀ k, k < 4 → parseFieldDescriptor (ft_S k).2.2.1 = some (fy_S k) := by decide +kernel
def ft_Y : u_T := fun k => match k with
  | 0 => ("TurnCounts$TypeTable", "figures", "[I", true)
  | 1 => ("TurnCounts$TypeTable", "turns", "[I", true)
  | 2 => ("TurnCounts$TypeTable", "amount", "I", false)
  | _ => ("TurnCounts$TypeTable", "upToDate", "Z", false)
def fy_Y : Nat → FieldType := fun k => match k with
  | 0 => .array .int
  | 1 => .array .int
  | 2 => .int
  | _ => .boolean
theorem fn_Y : ∀ a, a < 4 → ∀ b, b < 4 → a ≠ b → (ft_Y a).2.1 ≠ (ft_Y b).2.1 := by decide +kernel
theorem fk_Y : ∀ k, k < 4 → parseFieldDescriptor (ft_Y k).2.2.1 = some (fy_Y k) := by decide +kernel
def ft_T : u_T := fun k => match k with
  | 0 => ("TurnCounts", "now", "LTurnCounts$Setting;", true)
  | 1 => ("TurnCounts", "kept", "[LTurnCounts$Setting;", true)
  | 2 => ("TurnCounts", "keptSet", "I", false)
  | 3 => ("TurnCounts", "pad", "LTurnCounts$Pad;", true)
  | 4 => ("TurnCounts", "types", "LTurnCounts$TypeTable;", true)
  | _ => ("TurnCounts", "table", "LTurnCounts$PatternTable;", true)
def fy_T : Nat → FieldType := fun k => match k with
  | 0 => .object "TurnCounts$Setting"
  | 1 => .array (.object "TurnCounts$Setting")
  | 2 => .int
  | 3 => .object "TurnCounts$Pad"
  | 4 => .object "TurnCounts$TypeTable"
  | _ => .object "TurnCounts$PatternTable"
theorem fn_T : ∀ a, a < 6 → ∀ b, b < 6 → a ≠ b → (ft_T a).2.1 ≠ (ft_T b).2.1 := by decide +kernel
theorem fk_T : ∀ k, k < 6 → parseFieldDescriptor (ft_T k).2.2.1 = some (fy_T k) := by decide +kernel
def ft_M : u_T := fun k => match k with
  | 0 => ("TurnCountsModel", "state", "[I", true)
  | 1 => ("TurnCountsModel", "images", "[I", true)
  | 2 => ("TurnCountsModel", "isKept", "[Z", true)
  | 3 => ("TurnCountsModel", "pad", "[I", true)
  | 4 => ("TurnCountsModel", "said", "I", false)
  | 5 => ("TurnCountsModel", "row", "[I", true)
  | 6 => ("TurnCountsModel", "isUsed", "[Z", true)
  | 7 => ("TurnCountsModel", "maker", "[I", true)
  | 8 => ("TurnCountsModel", "makers", "I", false)
  | 9 => ("TurnCountsModel", "wave", "[I", true)
  | 10 => ("TurnCountsModel", "waved", "I", false)
  | 11 => ("TurnCountsModel", "turnOf", "[I", true)
  | 12 => ("TurnCountsModel", "turns", "I", false)
  | 13 => ("TurnCountsModel", "had", "[I", true)
  | 14 => ("TurnCountsModel", "longs", "[I", true)
  | 15 => ("TurnCountsModel", "types", "[I", true)
  | 16 => ("TurnCountsModel", "typeMany", "[I", true)
  | 17 => ("TurnCountsModel", "typesMany", "I", false)
  | 18 => ("TurnCountsModel", "colour", "[I", true)
  | 19 => ("TurnCountsModel", "patternOf", "[I", true)
  | 20 => ("TurnCountsModel", "leastOf", "[I", true)
  | 21 => ("TurnCountsModel", "sizeOf", "[I", true)
  | 22 => ("TurnCountsModel", "patternMany", "I", false)
  | 23 => ("TurnCountsModel", "colourings", "I", false)
  | _ => ("TurnCountsModel", "placeWorth", "[I", true)
def fy_M : Nat → FieldType := fun k => match k with
  | 0 => .array .int
  | 1 => .array .int
  | 2 => .array .boolean
  | 3 => .array .int
  | 4 => .int
  | 5 => .array .int
  | 6 => .array .boolean
  | 7 => .array .int
  | 8 => .int
  | 9 => .array .int
  | 10 => .int
  | 11 => .array .int
  | 12 => .int
  | 13 => .array .int
  | 14 => .array .int
  | 15 => .array .int
  | 16 => .array .int
  | 17 => .int
  | 18 => .array .int
  | 19 => .array .int
  | 20 => .array .int
  | 21 => .array .int
  | 22 => .int
  | 23 => .int
  | _ => .array .int
theorem fn_M : ∀ a, a < 25 → ∀ b, b < 25 → a ≠ b → (ft_M a).2.1 ≠ (ft_M b).2.1 := by decide +kernel
theorem fk_M : ∀ k, k < 25 → parseFieldDescriptor (ft_M k).2.2.1 = some (fy_M k) := by decide +kernel
def yy_T_init : MethodName := ⟨"TurnCounts", "<init>", "()V"⟩
abbrev bc_T_init : ByteArray := prog_1_method_1_code
def yy_O_init : MethodName := ⟨"java/lang/Object", "<init>", "()V"⟩
abbrev bc_O_init : ByteArray := object_method_1_code
def yy_S_init : MethodName := ⟨"TurnCounts$Setting", "<init>", "()V"⟩
abbrev bc_S_init : ByteArray := prog_5_method_1_code
def yy_G_init : MethodName := ⟨"TurnCounts$Group", "<init>", "()V"⟩
abbrev bc_G_init : ByteArray := prog_2_method_1_code
def yy_G_makeStill : MethodName := ⟨"TurnCounts$Group", "makeStill", "()V"⟩
abbrev bc_G_makeStill : ByteArray := prog_2_method_2_code
def yy_G_add : MethodName := ⟨"TurnCounts$Group", "add", "(I)V"⟩
abbrev bc_G_add : ByteArray := prog_2_method_6_code
def yy_U_rank : MethodName := ⟨"TurnCounts$Turns", "rank", "(I)I"⟩
abbrev bc_U_rank : ByteArray := prog_6_method_5_code
def yy_U_goal : MethodName := ⟨"TurnCounts$Turns", "goal", "(II)I"⟩
abbrev bc_U_goal : ByteArray := prog_6_method_2_code
def yy_J_bitCount : MethodName := ⟨"java/lang/Integer", "bitCount", "(I)I"⟩
abbrev bc_J_bitCount : ByteArray := prog_10_method_49_code
def yy_G_isRank : MethodName := ⟨"TurnCounts$Group", "isRank", "(I)Z"⟩
abbrev bc_G_isRank : ByteArray := prog_2_method_5_code
def yy_T_isWithin : MethodName := ⟨"TurnCounts", "isWithin", "(III)Z"⟩
abbrev bc_T_isWithin : ByteArray := prog_1_method_21_code
def yy_D_init : MethodName := ⟨"TurnCounts$Pad", "<init>", "()V"⟩
abbrev bc_D_init : ByteArray := prog_3_method_1_code
def yy_Y_init : MethodName := ⟨"TurnCounts$TypeTable", "<init>", "()V"⟩
abbrev bc_Y_init : ByteArray := prog_7_method_1_code
def yy_P_init : MethodName := ⟨"TurnCounts$PatternTable", "<init>", "()V"⟩
abbrev bc_P_init : ByteArray := prog_4_method_1_code
def yy_T_points : MethodName := ⟨"TurnCounts", "points", "(I)I"⟩
abbrev bc_T_points : ByteArray := prog_1_method_2_code
def yy_T_forgetGroup : MethodName := ⟨"TurnCounts", "forgetGroup", "()V"⟩
abbrev bc_T_forgetGroup : ByteArray := prog_1_method_24_code
def yy_T_beside : MethodName := ⟨"TurnCounts", "beside", "(III)I"⟩
abbrev bc_T_beside : ByteArray := prog_1_method_3_code
def yy_T_isKind : MethodName := ⟨"TurnCounts", "isKind", "(I)Z"⟩
abbrev bc_T_isKind : ByteArray := prog_1_method_22_code
def yy_G_widenByKind : MethodName := ⟨"TurnCounts$Group", "widenByKind", "(IIII)V"⟩
abbrev bc_G_widenByKind : ByteArray := prog_2_method_7_code
def yy_U_roundTurn : MethodName := ⟨"TurnCounts$Turns", "roundTurn", "(III)I"⟩
abbrev bc_U_roundTurn : ByteArray := prog_6_method_9_code
def yy_U_withThing : MethodName := ⟨"TurnCounts$Turns", "withThing", "(IIII)I"⟩
abbrev bc_U_withThing : ByteArray := prog_6_method_11_code
def yy_U_withGoal : MethodName := ⟨"TurnCounts$Turns", "withGoal", "(III)I"⟩
abbrev bc_U_withGoal : ByteArray := prog_6_method_3_code
def yy_G_widen : MethodName := ⟨"TurnCounts$Group", "widen", "(I)V"⟩
abbrev bc_G_widen : ByteArray := prog_2_method_8_code
def yy_G_has : MethodName := ⟨"TurnCounts$Group", "has", "(I)Z"⟩
abbrev bc_G_has : ByteArray := prog_2_method_4_code
def yy_G_addCopy : MethodName := ⟨"TurnCounts$Group", "addCopy", "(II)V"⟩
abbrev bc_G_addCopy : ByteArray := prog_2_method_9_code
def yy_U_oneThenOther : MethodName := ⟨"TurnCounts$Turns", "oneThenOther", "(II)I"⟩
abbrev bc_U_oneThenOther : ByteArray := prog_6_method_4_code
def yy_U_flipTurn : MethodName := ⟨"TurnCounts$Turns", "flipTurn", "(III)I"⟩
abbrev bc_U_flipTurn : ByteArray := prog_6_method_10_code
def yy_T_blocks : MethodName := ⟨"TurnCounts", "blocks", "(III)I"⟩
abbrev bc_T_blocks : ByteArray := prog_1_method_4_code
def yy_T_join : MethodName := ⟨"TurnCounts", "join", "()I"⟩
abbrev bc_T_join : ByteArray := prog_1_method_5_code
def yy_D_toldTurn : MethodName := ⟨"TurnCounts$Pad", "toldTurn", "(I)I"⟩
abbrev bc_D_toldTurn : ByteArray := prog_3_method_2_code
def yy_T_say : MethodName := ⟨"TurnCounts", "say", "(I)I"⟩
abbrev bc_T_say : ByteArray := prog_1_method_6_code
def yy_T_wipe : MethodName := ⟨"TurnCounts", "wipe", "()I"⟩
abbrev bc_T_wipe : ByteArray := prog_1_method_7_code
def yy_T_turn : MethodName := ⟨"TurnCounts", "turn", "(I)I"⟩
abbrev bc_T_turn : ByteArray := prog_1_method_8_code
def yy_U_typeOf : MethodName := ⟨"TurnCounts$Turns", "typeOf", "(II)I"⟩
abbrev bc_U_typeOf : ByteArray := prog_6_method_6_code
def yy_U_tallyCycles : MethodName := ⟨"TurnCounts$Turns", "tallyCycles", "(II)I"⟩
abbrev bc_U_tallyCycles : ByteArray := prog_6_method_7_code
def yy_U_timesTillStill : MethodName := ⟨"TurnCounts$Turns", "timesTillStill", "(I)I"⟩
abbrev bc_U_timesTillStill : ByteArray := prog_6_method_8_code
def yy_T_type : MethodName := ⟨"TurnCounts", "type", "(II)I"⟩
abbrev bc_T_type : ByteArray := prog_1_method_9_code
def yy_Y_bringUp : MethodName := ⟨"TurnCounts$TypeTable", "bringUp", "(LTurnCounts$Setting;)V"⟩
abbrev bc_Y_bringUp : ByteArray := prog_7_method_2_code
def yy_Y_add : MethodName := ⟨"TurnCounts$TypeTable", "add", "(I)V"⟩
abbrev bc_Y_add : ByteArray := prog_7_method_3_code
def yy_Y_insert : MethodName := ⟨"TurnCounts$TypeTable", "insert", "(II)V"⟩
abbrev bc_Y_insert : ByteArray := prog_7_method_4_code
def yy_T_orbit : MethodName := ⟨"TurnCounts", "orbit", "(II)I"⟩
abbrev bc_T_orbit : ByteArray := prog_1_method_10_code
def yy_G_reachFrom : MethodName := ⟨"TurnCounts$Group", "reachFrom", "(I)I"⟩
abbrev bc_G_reachFrom : ByteArray := prog_2_method_10_code
def yy_G_holding : MethodName := ⟨"TurnCounts$Group", "holding", "(I)I"⟩
abbrev bc_G_holding : ByteArray := prog_2_method_11_code
def yy_T_sorts : MethodName := ⟨"TurnCounts", "sorts", "(I)I"⟩
abbrev bc_T_sorts : ByteArray := prog_1_method_11_code
def yy_T_weight : MethodName := ⟨"TurnCounts", "weight", "(II)I"⟩
abbrev bc_T_weight : ByteArray := prog_1_method_12_code
def yy_T_patterns : MethodName := ⟨"TurnCounts", "patterns", "(I)I"⟩
abbrev bc_T_patterns : ByteArray := prog_1_method_13_code
def yy_P_bringUp : MethodName := ⟨"TurnCounts$PatternTable", "bringUp", "(LTurnCounts$Setting;)V"⟩
abbrev bc_P_bringUp : ByteArray := prog_4_method_2_code
def yy_P_setPlaces : MethodName := ⟨"TurnCounts$PatternTable", "setPlaces", "(LTurnCounts$Setting;)V"⟩
abbrev bc_P_setPlaces : ByteArray := prog_4_method_3_code
def yy_A_min : MethodName := ⟨"java/lang/Math", "min", "(II)I"⟩
abbrev bc_A_min : ByteArray := prog_11_method_69_code
def yy_S_colourings : MethodName := ⟨"TurnCounts$Setting", "colourings", "()I"⟩
abbrev bc_S_colourings : ByteArray := prog_5_method_3_code
def yy_P_gather : MethodName := ⟨"TurnCounts$PatternTable", "gather", "(ILTurnCounts$Group;)V"⟩
abbrev bc_P_gather : ByteArray := prog_4_method_4_code
def yy_P_put : MethodName := ⟨"TurnCounts$PatternTable", "put", "(I)V"⟩
abbrev bc_P_put : ByteArray := prog_4_method_5_code
def yy_P_turned : MethodName := ⟨"TurnCounts$PatternTable", "turned", "(II)I"⟩
abbrev bc_P_turned : ByteArray := prog_4_method_7_code
def yy_P_amountOfWeight : MethodName := ⟨"TurnCounts$PatternTable", "amountOfWeight", "(ILTurnCounts$Setting;)I"⟩
abbrev bc_P_amountOfWeight : ByteArray := prog_4_method_13_code
def yy_P_leastOf : MethodName := ⟨"TurnCounts$PatternTable", "leastOf", "(I)I"⟩
abbrev bc_P_leastOf : ByteArray := prog_4_method_8_code
def yy_S_weightOf : MethodName := ⟨"TurnCounts$Setting", "weightOf", "(I)I"⟩
abbrev bc_S_weightOf : ByteArray := prog_5_method_6_code
def yy_S_isReadable : MethodName := ⟨"TurnCounts$Setting", "isReadable", "(I)Z"⟩
abbrev bc_S_isReadable : ByteArray := prog_5_method_4_code
def yy_T_pattern : MethodName := ⟨"TurnCounts", "pattern", "(II)I"⟩
abbrev bc_T_pattern : ByteArray := prog_1_method_14_code
def yy_P_sizeOf : MethodName := ⟨"TurnCounts$PatternTable", "sizeOf", "(I)I"⟩
abbrev bc_P_sizeOf : ByteArray := prog_4_method_9_code
def yy_P_twinOf : MethodName := ⟨"TurnCounts$PatternTable", "twinOf", "(ILTurnCounts$Setting;)I"⟩
abbrev bc_P_twinOf : ByteArray := prog_4_method_10_code
def yy_S_mirrored : MethodName := ⟨"TurnCounts$Setting", "mirrored", "(I)I"⟩
abbrev bc_S_mirrored : ByteArray := prog_5_method_5_code
def yy_P_patternOf : MethodName := ⟨"TurnCounts$PatternTable", "patternOf", "(I)I"⟩
abbrev bc_P_patternOf : ByteArray := prog_4_method_6_code
def yy_S_coloursOf : MethodName := ⟨"TurnCounts$Setting", "coloursOf", "(I)I"⟩
abbrev bc_S_coloursOf : ByteArray := prog_5_method_7_code
def yy_T_of : MethodName := ⟨"TurnCounts", "of", "(II)I"⟩
abbrev bc_T_of : ByteArray := prog_1_method_15_code
def yy_T_isNumber : MethodName := ⟨"TurnCounts", "isNumber", "(I)Z"⟩
abbrev bc_T_isNumber : ByteArray := prog_1_method_23_code
def yy_P_keepersOf : MethodName := ⟨"TurnCounts$PatternTable", "keepersOf", "(ILTurnCounts$Group;)I"⟩
abbrev bc_P_keepersOf : ByteArray := prog_4_method_11_code
def yy_T_kinds : MethodName := ⟨"TurnCounts", "kinds", "(I)I"⟩
abbrev bc_T_kinds : ByteArray := prog_1_method_16_code
def yy_P_amountHanded : MethodName := ⟨"TurnCounts$PatternTable", "amountHanded", "(LTurnCounts$Setting;)I"⟩
abbrev bc_P_amountHanded : ByteArray := prog_4_method_14_code
def yy_P_amountOfAllColours : MethodName := ⟨"TurnCounts$PatternTable", "amountOfAllColours", "(LTurnCounts$Setting;)I"⟩
abbrev bc_P_amountOfAllColours : ByteArray := prog_4_method_15_code
def yy_P_amountAlone : MethodName := ⟨"TurnCounts$PatternTable", "amountAlone", "()I"⟩
abbrev bc_P_amountAlone : ByteArray := prog_4_method_16_code
def yy_P_greatestSize : MethodName := ⟨"TurnCounts$PatternTable", "greatestSize", "()I"⟩
abbrev bc_P_greatestSize : ByteArray := prog_4_method_17_code
def yy_A_max : MethodName := ⟨"java/lang/Math", "max", "(II)I"⟩
abbrev bc_A_max : ByteArray := prog_11_method_65_code
def yy_T_by : MethodName := ⟨"TurnCounts", "by", "(II)I"⟩
abbrev bc_T_by : ByteArray := prog_1_method_17_code
def yy_P_firstToLeast : MethodName := ⟨"TurnCounts$PatternTable", "firstToLeast", "(ILTurnCounts$Group;)I"⟩
abbrev bc_P_firstToLeast : ByteArray := prog_4_method_12_code
def yy_T_image : MethodName := ⟨"TurnCounts", "image", "(I)I"⟩
abbrev bc_T_image : ByteArray := prog_1_method_18_code
def yy_S_copyFrom : MethodName := ⟨"TurnCounts$Setting", "copyFrom", "(LTurnCounts$Setting;)V"⟩
abbrev bc_S_copyFrom : ByteArray := prog_5_method_2_code
def yy_G_copyFrom : MethodName := ⟨"TurnCounts$Group", "copyFrom", "(LTurnCounts$Group;)V"⟩
abbrev bc_G_copyFrom : ByteArray := prog_2_method_3_code
def yy_T_restore : MethodName := ⟨"TurnCounts", "restore", "(I)I"⟩
abbrev bc_T_restore : ByteArray := prog_1_method_19_code
def yy_T_count : MethodName := ⟨"TurnCounts", "count", "(I)I"⟩
abbrev bc_T_count : ByteArray := prog_1_method_20_code
def yy_M_init : MethodName := ⟨"TurnCountsModel", "<init>", "()V"⟩
abbrev bc_M_init : ByteArray := prog_9_method_1_code
def yy_M_beginGroup : MethodName := ⟨"TurnCountsModel", "beginGroup", "()V"⟩
abbrev bc_M_beginGroup : ByteArray := prog_9_method_6_code
def yy_M_closeGroup : MethodName := ⟨"TurnCountsModel", "closeGroup", "()V"⟩
abbrev bc_M_closeGroup : ByteArray := prog_9_method_10_code
def yy_M_layStill : MethodName := ⟨"TurnCountsModel", "layStill", "()V"⟩
abbrev bc_M_layStill : ByteArray := prog_9_method_8_code
def yy_M_many : MethodName := ⟨"TurnCountsModel", "many", "()I"⟩
abbrev bc_M_many : ByteArray := prog_9_method_3_code
def yy_M_rank : MethodName := ⟨"TurnCountsModel", "rank", "()I"⟩
abbrev bc_M_rank : ByteArray := prog_9_method_4_code
def yy_M_meet : MethodName := ⟨"TurnCountsModel", "meet", "(I)V"⟩
abbrev bc_M_meet : ByteArray := prog_9_method_9_code
def yy_M_layRank : MethodName := ⟨"TurnCountsModel", "layRank", "(I)V"⟩
abbrev bc_M_layRank : ByteArray := prog_9_method_5_code
def yy_M_layTurns : MethodName := ⟨"TurnCountsModel", "layTurns", "()V"⟩
abbrev bc_M_layTurns : ByteArray := prog_9_method_11_code
def yy_M_points : MethodName := ⟨"TurnCountsModel", "points", "(I)I"⟩
abbrev bc_M_points : ByteArray := prog_9_method_12_code
def yy_M_in : MethodName := ⟨"TurnCountsModel", "in", "(III)Z"⟩
abbrev bc_M_in : ByteArray := prog_9_method_2_code
def yy_M_beside : MethodName := ⟨"TurnCountsModel", "beside", "(III)I"⟩
abbrev bc_M_beside : ByteArray := prog_9_method_19_code
def yy_M_isKind : MethodName := ⟨"TurnCountsModel", "isKind", "(I)Z"⟩
abbrev bc_M_isKind : ByteArray := prog_9_method_13_code
def yy_M_addKind : MethodName := ⟨"TurnCountsModel", "addKind", "(IIII)V"⟩
abbrev bc_M_addKind : ByteArray := prog_9_method_18_code
def yy_M_addRound : MethodName := ⟨"TurnCountsModel", "addRound", "(III)V"⟩
abbrev bc_M_addRound : ByteArray := prog_9_method_15_code
def yy_M_bring : MethodName := ⟨"TurnCountsModel", "bring", "(IIII)V"⟩
abbrev bc_M_bring : ByteArray := prog_9_method_14_code
def yy_M_addMaker : MethodName := ⟨"TurnCountsModel", "addMaker", "()V"⟩
abbrev bc_M_addMaker : ByteArray := prog_9_method_7_code
def yy_M_addFlip : MethodName := ⟨"TurnCountsModel", "addFlip", "(III)V"⟩
abbrev bc_M_addFlip : ByteArray := prog_9_method_16_code
def yy_M_addNext : MethodName := ⟨"TurnCountsModel", "addNext", "(IIII)V"⟩
abbrev bc_M_addNext : ByteArray := prog_9_method_17_code
def yy_M_blocks : MethodName := ⟨"TurnCountsModel", "blocks", "(III)I"⟩
abbrev bc_M_blocks : ByteArray := prog_9_method_20_code
def yy_M_say : MethodName := ⟨"TurnCountsModel", "say", "(I)I"⟩
abbrev bc_M_say : ByteArray := prog_9_method_21_code
def yy_M_wipe : MethodName := ⟨"TurnCountsModel", "wipe", "()I"⟩
abbrev bc_M_wipe : ByteArray := prog_9_method_22_code
def yy_M_join : MethodName := ⟨"TurnCountsModel", "join", "()I"⟩
abbrev bc_M_join : ByteArray := prog_9_method_24_code
def yy_M_layPad : MethodName := ⟨"TurnCountsModel", "layPad", "()Z"⟩
abbrev bc_M_layPad : ByteArray := prog_9_method_23_code
def yy_M_turn : MethodName := ⟨"TurnCountsModel", "turn", "(I)I"⟩
abbrev bc_M_turn : ByteArray := prog_9_method_28_code
def yy_M_typeOfRow : MethodName := ⟨"TurnCountsModel", "typeOfRow", "()I"⟩
abbrev bc_M_typeOfRow : ByteArray := prog_9_method_25_code
def yy_M_orderOf : MethodName := ⟨"TurnCountsModel", "orderOf", "(I)I"⟩
abbrev bc_M_orderOf : ByteArray := prog_9_method_27_code
def yy_M_common : MethodName := ⟨"TurnCountsModel", "common", "(II)I"⟩
abbrev bc_M_common : ByteArray := prog_9_method_26_code
def yy_M_type : MethodName := ⟨"TurnCountsModel", "type", "(II)I"⟩
abbrev bc_M_type : ByteArray := prog_9_method_32_code
def yy_M_layTypes : MethodName := ⟨"TurnCountsModel", "layTypes", "()V"⟩
abbrev bc_M_layTypes : ByteArray := prog_9_method_31_code
def yy_M_layTurn : MethodName := ⟨"TurnCountsModel", "layTurn", "(I)V"⟩
abbrev bc_M_layTurn : ByteArray := prog_9_method_30_code
def yy_M_addType : MethodName := ⟨"TurnCountsModel", "addType", "(I)V"⟩
abbrev bc_M_addType : ByteArray := prog_9_method_29_code
def yy_M_orbit : MethodName := ⟨"TurnCountsModel", "orbit", "(II)I"⟩
abbrev bc_M_orbit : ByteArray := prog_9_method_34_code
def yy_M_isPoint : MethodName := ⟨"TurnCountsModel", "isPoint", "(I)Z"⟩
abbrev bc_M_isPoint : ByteArray := prog_9_method_33_code
def yy_M_sorts : MethodName := ⟨"TurnCountsModel", "sorts", "(I)I"⟩
abbrev bc_M_sorts : ByteArray := prog_9_method_43_code
def yy_M_weight : MethodName := ⟨"TurnCountsModel", "weight", "(II)I"⟩
abbrev bc_M_weight : ByteArray := prog_9_method_44_code
def yy_M_patterns : MethodName := ⟨"TurnCountsModel", "patterns", "(I)I"⟩
abbrev bc_M_patterns : ByteArray := prog_9_method_45_code
def yy_M_layPatterns : MethodName := ⟨"TurnCountsModel", "layPatterns", "()V"⟩
abbrev bc_M_layPatterns : ByteArray := prog_9_method_38_code
def yy_M_layWorths : MethodName := ⟨"TurnCountsModel", "layWorths", "()V"⟩
abbrev bc_M_layWorths : ByteArray := prog_9_method_36_code
def yy_M_strike : MethodName := ⟨"TurnCountsModel", "strike", "(I)V"⟩
abbrev bc_M_strike : ByteArray := prog_9_method_39_code
def yy_M_layColours : MethodName := ⟨"TurnCountsModel", "layColours", "(I)V"⟩
abbrev bc_M_layColours : ByteArray := prog_9_method_35_code
def yy_M_turned : MethodName := ⟨"TurnCountsModel", "turned", "(I)I"⟩
abbrev bc_M_turned : ByteArray := prog_9_method_37_code
def yy_M_weightOf : MethodName := ⟨"TurnCountsModel", "weightOf", "(I)I"⟩
abbrev bc_M_weightOf : ByteArray := prog_9_method_40_code
def yy_M_pattern : MethodName := ⟨"TurnCountsModel", "pattern", "(II)I"⟩
abbrev bc_M_pattern : ByteArray := prog_9_method_47_code
def yy_M_twin : MethodName := ⟨"TurnCountsModel", "twin", "(I)I"⟩
abbrev bc_M_twin : ByteArray := prog_9_method_46_code
def yy_M_mirrored : MethodName := ⟨"TurnCountsModel", "mirrored", "(I)I"⟩
abbrev bc_M_mirrored : ByteArray := prog_9_method_42_code
def yy_M_coloursOf : MethodName := ⟨"TurnCountsModel", "coloursOf", "(I)I"⟩
abbrev bc_M_coloursOf : ByteArray := prog_9_method_41_code
def yy_M_of : MethodName := ⟨"TurnCountsModel", "of", "(II)I"⟩
abbrev bc_M_of : ByteArray := prog_9_method_49_code
def yy_M_isNumber : MethodName := ⟨"TurnCountsModel", "isNumber", "(I)Z"⟩
abbrev bc_M_isNumber : ByteArray := prog_9_method_48_code
def yy_M_kinds : MethodName := ⟨"TurnCountsModel", "kinds", "(I)I"⟩
abbrev bc_M_kinds : ByteArray := prog_9_method_51_code
def yy_M_isOf : MethodName := ⟨"TurnCountsModel", "isOf", "(II)Z"⟩
abbrev bc_M_isOf : ByteArray := prog_9_method_50_code
def yy_M_by : MethodName := ⟨"TurnCountsModel", "by", "(II)I"⟩
abbrev bc_M_by : ByteArray := prog_9_method_52_code
def yy_M_image : MethodName := ⟨"TurnCountsModel", "image", "(I)I"⟩
abbrev bc_M_image : ByteArray := prog_9_method_53_code
def yy_M_restore : MethodName := ⟨"TurnCountsModel", "restore", "(I)I"⟩
abbrev bc_M_restore : ByteArray := prog_9_method_54_code
def yy_M_count : MethodName := ⟨"TurnCountsModel", "count", "(I)I"⟩
abbrev bc_M_count : ByteArray := prog_9_method_55_code
/-- the words that hold in every state behind this one -/
def tg : List Cond := lw_tbl.filter goodWord
theorem tb_0 : Cond.initialized "TurnCountsLaw" ∈ tg := List.mem_filter.mpr ⟨List.mem_append_right _ (List.mem_append_left _ (List.mem_of_getElem? (i := 0) (by decide +kernel))), by decide +kernel⟩
theorem tb_1 : Cond.initialized "TurnCounts" ∈ tg := List.mem_filter.mpr ⟨List.mem_append_right _ (List.mem_append_left _ (List.mem_of_getElem? (i := 1) (by decide +kernel))), by decide +kernel⟩
theorem tb_2 : Cond.initialized "TurnCounts$Setting" ∈ tg := List.mem_filter.mpr ⟨List.mem_append_right _ (List.mem_append_left _ (List.mem_of_getElem? (i := 2) (by decide +kernel))), by decide +kernel⟩
theorem tb_3 : Cond.initialized "TurnCounts$Group" ∈ tg := List.mem_filter.mpr ⟨List.mem_append_right _ (List.mem_append_left _ (List.mem_of_getElem? (i := 3) (by decide +kernel))), by decide +kernel⟩
theorem tb_4 : Cond.initialized "TurnCounts$Turns" ∈ tg := List.mem_filter.mpr ⟨List.mem_append_right _ (List.mem_append_left _ (List.mem_of_getElem? (i := 4) (by decide +kernel))), by decide +kernel⟩
theorem tb_5 : Cond.initialized "java/lang/Integer" ∈ tg := List.mem_filter.mpr ⟨List.mem_append_right _ (List.mem_append_left _ (List.mem_of_getElem? (i := 5) (by decide +kernel))), by decide +kernel⟩
theorem tb_6 : Cond.initialized "TurnCounts$Pad" ∈ tg := List.mem_filter.mpr ⟨List.mem_append_right _ (List.mem_append_left _ (List.mem_of_getElem? (i := 6) (by decide +kernel))), by decide +kernel⟩
theorem tb_7 : Cond.initialized "TurnCounts$TypeTable" ∈ tg := List.mem_filter.mpr ⟨List.mem_append_right _ (List.mem_append_left _ (List.mem_of_getElem? (i := 7) (by decide +kernel))), by decide +kernel⟩
theorem tb_8 : Cond.initialized "TurnCounts$PatternTable" ∈ tg := List.mem_filter.mpr ⟨List.mem_append_right _ (List.mem_append_left _ (List.mem_of_getElem? (i := 8) (by decide +kernel))), by decide +kernel⟩
theorem tb_9 : Cond.initialized "TurnCountsModel" ∈ tg := List.mem_filter.mpr ⟨List.mem_append_right _ (List.mem_append_left _ (List.mem_of_getElem? (i := 9) (by decide +kernel))), by decide +kernel⟩
theorem tb_10 : Cond.initialized "java/lang/Math" ∈ tg := List.mem_filter.mpr ⟨List.mem_append_right _ (List.mem_append_left _ (List.mem_of_getElem? (i := 10) (by decide +kernel))), by decide +kernel⟩
theorem tb_11 : Cond.initialized "java/lang/System" ∈ tg := List.mem_filter.mpr ⟨List.mem_append_right _ (List.mem_append_left _ (List.mem_of_getElem? (i := 11) (by decide +kernel))), by decide +kernel⟩
theorem tb_12 : Cond.classLink "TurnCountsLaw" 7 "TurnCounts" ∈ tg := List.mem_filter.mpr ⟨List.mem_append_right _ (List.mem_append_left _ (List.mem_of_getElem? (i := 12) (by decide +kernel))), by decide +kernel⟩
theorem tb_13 : Cond.instantiable "TurnCounts" 6 ∈ tg := List.mem_filter.mpr ⟨List.mem_append_right _ (List.mem_append_left _ (List.mem_of_getElem? (i := 13) (by decide +kernel))), by decide +kernel⟩
theorem tb_14 : Cond.methodLink "TurnCountsLaw" 9 ⟨"TurnCounts", "<init>", "()V"⟩ ∈ tg := List.mem_filter.mpr ⟨List.mem_append_right _ (List.mem_append_left _ (List.mem_of_getElem? (i := 14) (by decide +kernel))), by decide +kernel⟩
theorem tb_15 : Cond.instanceMethod ⟨"TurnCounts", "<init>", "()V"⟩ ∈ tg := List.mem_filter.mpr ⟨List.mem_append_right _ (List.mem_append_left _ (List.mem_of_getElem? (i := 15) (by decide +kernel))), by decide +kernel⟩
theorem tb_16 : Cond.code ⟨"TurnCounts", "<init>", "()V"⟩ prog_1_method_1_code 2 (Option.none : Option FieldType) ∈ tg := List.mem_filter.mpr ⟨List.mem_append_right _ (List.mem_append_left _ (List.mem_of_getElem? (i := 16) (by decide +kernel))), by decide +kernel⟩
theorem tb_17 : Cond.methodLink "TurnCounts" 1 ⟨"java/lang/Object", "<init>", "()V"⟩ ∈ tg := List.mem_filter.mpr ⟨List.mem_append_right _ (List.mem_append_left _ (List.mem_of_getElem? (i := 17) (by decide +kernel))), by decide +kernel⟩
theorem tb_18 : Cond.instanceMethod ⟨"java/lang/Object", "<init>", "()V"⟩ ∈ tg := List.mem_filter.mpr ⟨List.mem_append_right _ (List.mem_append_left _ (List.mem_of_getElem? (i := 18) (by decide +kernel))), by decide +kernel⟩
theorem tb_19 : Cond.code ⟨"java/lang/Object", "<init>", "()V"⟩ object_method_1_code 1 (Option.none : Option FieldType) ∈ tg := List.mem_filter.mpr ⟨List.mem_append_right _ (List.mem_append_left _ (List.mem_of_getElem? (i := 19) (by decide +kernel))), by decide +kernel⟩
theorem tb_20 : Cond.classLink "TurnCounts" 7 "TurnCounts$Setting" ∈ tg := List.mem_filter.mpr ⟨List.mem_append_right _ (List.mem_append_left _ (List.mem_of_getElem? (i := 20) (by decide +kernel))), by decide +kernel⟩
theorem tb_21 : Cond.instantiable "TurnCounts$Setting" 4 ∈ tg := List.mem_filter.mpr ⟨List.mem_append_right _ (List.mem_append_left _ (List.mem_of_getElem? (i := 21) (by decide +kernel))), by decide +kernel⟩
theorem tb_22 : Cond.methodLink "TurnCounts" 9 ⟨"TurnCounts$Setting", "<init>", "()V"⟩ ∈ tg := List.mem_filter.mpr ⟨List.mem_append_right _ (List.mem_append_left _ (List.mem_of_getElem? (i := 22) (by decide +kernel))), by decide +kernel⟩
theorem tb_23 : Cond.instanceMethod ⟨"TurnCounts$Setting", "<init>", "()V"⟩ ∈ tg := List.mem_filter.mpr ⟨List.mem_append_right _ (List.mem_append_left _ (List.mem_of_getElem? (i := 23) (by decide +kernel))), by decide +kernel⟩
theorem tb_24 : Cond.code ⟨"TurnCounts$Setting", "<init>", "()V"⟩ prog_5_method_1_code 2 (Option.none : Option FieldType) ∈ tg := List.mem_filter.mpr ⟨List.mem_append_right _ (List.mem_append_left _ (List.mem_of_getElem? (i := 24) (by decide +kernel))), by decide +kernel⟩
theorem tb_25 : Cond.methodLink "TurnCounts$Setting" 3 ⟨"java/lang/Object", "<init>", "()V"⟩ ∈ tg := List.mem_filter.mpr ⟨List.mem_append_right _ (List.mem_append_left _ (List.mem_of_getElem? (i := 25) (by decide +kernel))), by decide +kernel⟩
theorem tb_26 : Cond.classLink "TurnCounts$Setting" 22 "TurnCounts$Group" ∈ tg := List.mem_filter.mpr ⟨List.mem_append_right _ (List.mem_append_left _ (List.mem_of_getElem? (i := 26) (by decide +kernel))), by decide +kernel⟩
theorem tb_27 : Cond.instantiable "TurnCounts$Group" 5 ∈ tg := List.mem_filter.mpr ⟨List.mem_append_right _ (List.mem_append_left _ (List.mem_of_getElem? (i := 27) (by decide +kernel))), by decide +kernel⟩
theorem tb_28 : Cond.methodLink "TurnCounts$Setting" 24 ⟨"TurnCounts$Group", "<init>", "()V"⟩ ∈ tg := List.mem_filter.mpr ⟨List.mem_append_right _ (List.mem_append_left _ (List.mem_of_getElem? (i := 28) (by decide +kernel))), by decide +kernel⟩
theorem tb_29 : Cond.instanceMethod ⟨"TurnCounts$Group", "<init>", "()V"⟩ ∈ tg := List.mem_filter.mpr ⟨List.mem_append_right _ (List.mem_append_left _ (List.mem_of_getElem? (i := 29) (by decide +kernel))), by decide +kernel⟩
theorem tb_30 : Cond.code ⟨"TurnCounts$Group", "<init>", "()V"⟩ prog_2_method_1_code 1 (Option.none : Option FieldType) ∈ tg := List.mem_filter.mpr ⟨List.mem_append_right _ (List.mem_append_left _ (List.mem_of_getElem? (i := 30) (by decide +kernel))), by decide +kernel⟩
theorem tb_31 : Cond.methodLink "TurnCounts$Group" 3 ⟨"java/lang/Object", "<init>", "()V"⟩ ∈ tg := List.mem_filter.mpr ⟨List.mem_append_right _ (List.mem_append_left _ (List.mem_of_getElem? (i := 31) (by decide +kernel))), by decide +kernel⟩
theorem tb_32 : Cond.methodLink "TurnCounts$Group" 21 ⟨"TurnCounts$Group", "makeStill", "()V"⟩ ∈ tg := List.mem_filter.mpr ⟨List.mem_append_right _ (List.mem_append_left _ (List.mem_of_getElem? (i := 32) (by decide +kernel))), by decide +kernel⟩
theorem tb_33 : Cond.instanceMethod ⟨"TurnCounts$Group", "makeStill", "()V"⟩ ∈ tg := List.mem_filter.mpr ⟨List.mem_append_right _ (List.mem_append_left _ (List.mem_of_getElem? (i := 33) (by decide +kernel))), by decide +kernel⟩
theorem tb_34 : Cond.selects "TurnCounts$Group" ⟨"TurnCounts$Group", "makeStill", "()V"⟩ ⟨"TurnCounts$Group", "makeStill", "()V"⟩ ∈ tg := List.mem_filter.mpr ⟨List.mem_append_right _ (List.mem_append_left _ (List.mem_of_getElem? (i := 34) (by decide +kernel))), by decide +kernel⟩
theorem tb_35 : Cond.code ⟨"TurnCounts$Group", "makeStill", "()V"⟩ prog_2_method_2_code 2 (Option.none : Option FieldType) ∈ tg := List.mem_filter.mpr ⟨List.mem_append_right _ (List.mem_append_left _ (List.mem_of_getElem? (i := 35) (by decide +kernel))), by decide +kernel⟩
theorem tb_36 : Cond.constant "TurnCounts$Group" 31 (42798 : Int32) ∈ tg := List.mem_filter.mpr ⟨List.mem_append_right _ (List.mem_append_left _ (List.mem_of_getElem? (i := 36) (by decide +kernel))), by decide +kernel⟩
theorem tb_37 : Cond.methodLink "TurnCounts$Group" 32 ⟨"TurnCounts$Group", "add", "(I)V"⟩ ∈ tg := List.mem_filter.mpr ⟨List.mem_append_right _ (List.mem_append_left _ (List.mem_of_getElem? (i := 37) (by decide +kernel))), by decide +kernel⟩
theorem tb_39 : Cond.instanceMethod ⟨"TurnCounts$Group", "add", "(I)V"⟩ ∈ tg := List.mem_filter.mpr ⟨List.mem_append_right _ (List.mem_append_left _ (List.mem_of_getElem? (i := 39) (by decide +kernel))), by decide +kernel⟩
theorem tb_40 : Cond.code ⟨"TurnCounts$Group", "add", "(I)V"⟩ prog_2_method_6_code 3 (Option.none : Option FieldType) ∈ tg := List.mem_filter.mpr ⟨List.mem_append_right _ (List.mem_append_left _ (List.mem_of_getElem? (i := 40) (by decide +kernel))), by decide +kernel⟩
theorem tb_41 : Cond.methodLink "TurnCounts$Group" 42 ⟨"TurnCounts$Turns", "rank", "(I)I"⟩ ∈ tg := List.mem_filter.mpr ⟨List.mem_append_right _ (List.mem_append_left _ (List.mem_of_getElem? (i := 41) (by decide +kernel))), by decide +kernel⟩
theorem tb_42 : Cond.static ⟨"TurnCounts$Turns", "rank", "(I)I"⟩ ∈ tg := List.mem_filter.mpr ⟨List.mem_append_right _ (List.mem_append_left _ (List.mem_of_getElem? (i := 42) (by decide +kernel))), by decide +kernel⟩
theorem tb_43 : Cond.code ⟨"TurnCounts$Turns", "rank", "(I)I"⟩ prog_6_method_5_code 6 (Option.some FieldType.int) ∈ tg := List.mem_filter.mpr ⟨List.mem_append_right _ (List.mem_append_left _ (List.mem_of_getElem? (i := 43) (by decide +kernel))), by decide +kernel⟩
theorem tb_44 : Cond.methodLink "TurnCounts$Turns" 9 ⟨"TurnCounts$Turns", "goal", "(II)I"⟩ ∈ tg := List.mem_filter.mpr ⟨List.mem_append_right _ (List.mem_append_left _ (List.mem_of_getElem? (i := 44) (by decide +kernel))), by decide +kernel⟩
theorem tb_45 : Cond.static ⟨"TurnCounts$Turns", "goal", "(II)I"⟩ ∈ tg := List.mem_filter.mpr ⟨List.mem_append_right _ (List.mem_append_left _ (List.mem_of_getElem? (i := 45) (by decide +kernel))), by decide +kernel⟩
theorem tb_46 : Cond.code ⟨"TurnCounts$Turns", "goal", "(II)I"⟩ prog_6_method_2_code 2 (Option.some FieldType.int) ∈ tg := List.mem_filter.mpr ⟨List.mem_append_right _ (List.mem_append_left _ (List.mem_of_getElem? (i := 46) (by decide +kernel))), by decide +kernel⟩
theorem tb_47 : Cond.methodLink "TurnCounts$Turns" 15 ⟨"java/lang/Integer", "bitCount", "(I)I"⟩ ∈ tg := List.mem_filter.mpr ⟨List.mem_append_right _ (List.mem_append_left _ (List.mem_of_getElem? (i := 47) (by decide +kernel))), by decide +kernel⟩
theorem tb_48 : Cond.static ⟨"java/lang/Integer", "bitCount", "(I)I"⟩ ∈ tg := List.mem_filter.mpr ⟨List.mem_append_right _ (List.mem_append_left _ (List.mem_of_getElem? (i := 48) (by decide +kernel))), by decide +kernel⟩
theorem tb_49 : Cond.code ⟨"java/lang/Integer", "bitCount", "(I)I"⟩ prog_10_method_49_code 1 (Option.some FieldType.int) ∈ tg := List.mem_filter.mpr ⟨List.mem_append_right _ (List.mem_append_left _ (List.mem_of_getElem? (i := 49) (by decide +kernel))), by decide +kernel⟩
theorem tb_50 : Cond.constant "java/lang/Integer" 265 (1431655765 : Int32) ∈ tg := List.mem_filter.mpr ⟨List.mem_append_right _ (List.mem_append_left _ (List.mem_of_getElem? (i := 50) (by decide +kernel))), by decide +kernel⟩
theorem tb_51 : Cond.constant "java/lang/Integer" 266 (858993459 : Int32) ∈ tg := List.mem_filter.mpr ⟨List.mem_append_right _ (List.mem_append_left _ (List.mem_of_getElem? (i := 51) (by decide +kernel))), by decide +kernel⟩
theorem tb_52 : Cond.constant "java/lang/Integer" 267 (252645135 : Int32) ∈ tg := List.mem_filter.mpr ⟨List.mem_append_right _ (List.mem_append_left _ (List.mem_of_getElem? (i := 52) (by decide +kernel))), by decide +kernel⟩
theorem tb_53 : Cond.methodLink "TurnCounts$Group" 48 ⟨"TurnCounts$Group", "isRank", "(I)Z"⟩ ∈ tg := List.mem_filter.mpr ⟨List.mem_append_right _ (List.mem_append_left _ (List.mem_of_getElem? (i := 53) (by decide +kernel))), by decide +kernel⟩
theorem tb_54 : Cond.static ⟨"TurnCounts$Group", "isRank", "(I)Z"⟩ ∈ tg := List.mem_filter.mpr ⟨List.mem_append_right _ (List.mem_append_left _ (List.mem_of_getElem? (i := 54) (by decide +kernel))), by decide +kernel⟩
theorem tb_55 : Cond.code ⟨"TurnCounts$Group", "isRank", "(I)Z"⟩ prog_2_method_5_code 1 (Option.some FieldType.boolean) ∈ tg := List.mem_filter.mpr ⟨List.mem_append_right _ (List.mem_append_left _ (List.mem_of_getElem? (i := 55) (by decide +kernel))), by decide +kernel⟩
theorem tb_56 : Cond.methodLinkNest "TurnCounts$Group" 52 ⟨"TurnCounts", "isWithin", "(III)Z"⟩ "TurnCounts" ∈ lw_tbl := List.mem_append_right _ (List.mem_append_left _ (List.mem_of_getElem? (i := 56) (by decide +kernel)))
theorem tb_57 : Cond.static ⟨"TurnCounts", "isWithin", "(III)Z"⟩ ∈ tg := List.mem_filter.mpr ⟨List.mem_append_right _ (List.mem_append_left _ (List.mem_of_getElem? (i := 57) (by decide +kernel))), by decide +kernel⟩
theorem tb_58 : Cond.code ⟨"TurnCounts", "isWithin", "(III)Z"⟩ prog_1_method_21_code 3 (Option.some FieldType.boolean) ∈ tg := List.mem_filter.mpr ⟨List.mem_append_right _ (List.mem_append_left _ (List.mem_of_getElem? (i := 58) (by decide +kernel))), by decide +kernel⟩
theorem tb_59 : Cond.fieldLink "TurnCounts$Group" 9 "TurnCounts$Group" "turns" "[I" ∈ tg := List.mem_filter.mpr ⟨List.mem_append_right _ (List.mem_append_left _ (List.mem_of_getElem? (i := 59) (by decide +kernel))), by decide +kernel⟩
theorem tb_60 : Cond.fieldLink "TurnCounts$TypeTable" 37 "TurnCounts$Group" "turns" "[I" ∈ tg := List.mem_filter.mpr ⟨List.mem_append_right _ (List.mem_append_left _ (List.mem_of_getElem? (i := 60) (by decide +kernel))), by decide +kernel⟩
theorem tb_61 : Cond.fieldLink "TurnCounts$PatternTable" 106 "TurnCounts$Group" "turns" "[I" ∈ tg := List.mem_filter.mpr ⟨List.mem_append_right _ (List.mem_append_left _ (List.mem_of_getElem? (i := 61) (by decide +kernel))), by decide +kernel⟩
theorem tb_62 : Cond.fieldLink "TurnCounts$TypeTable" 32 "TurnCounts$Group" "size" "I" ∈ tg := List.mem_filter.mpr ⟨List.mem_append_right _ (List.mem_append_left _ (List.mem_of_getElem? (i := 62) (by decide +kernel))), by decide +kernel⟩
theorem tb_63 : Cond.fieldLink "TurnCounts$Group" 28 "TurnCounts$Group" "size" "I" ∈ tg := List.mem_filter.mpr ⟨List.mem_append_right _ (List.mem_append_left _ (List.mem_of_getElem? (i := 63) (by decide +kernel))), by decide +kernel⟩
theorem tb_64 : Cond.fieldLink "TurnCounts" 72 "TurnCounts$Group" "size" "I" ∈ tg := List.mem_filter.mpr ⟨List.mem_append_right _ (List.mem_append_left _ (List.mem_of_getElem? (i := 64) (by decide +kernel))), by decide +kernel⟩
theorem tb_65 : Cond.fieldLink "TurnCounts$PatternTable" 103 "TurnCounts$Group" "size" "I" ∈ tg := List.mem_filter.mpr ⟨List.mem_append_right _ (List.mem_append_left _ (List.mem_of_getElem? (i := 65) (by decide +kernel))), by decide +kernel⟩
theorem tb_66 : Cond.fieldLink "TurnCounts$Group" 15 "TurnCounts$Group" "makers" "[I" ∈ tg := List.mem_filter.mpr ⟨List.mem_append_right _ (List.mem_append_left _ (List.mem_of_getElem? (i := 66) (by decide +kernel))), by decide +kernel⟩
theorem tb_67 : Cond.fieldLink "TurnCounts$PatternTable" 75 "TurnCounts$Group" "makers" "[I" ∈ tg := List.mem_filter.mpr ⟨List.mem_append_right _ (List.mem_append_left _ (List.mem_of_getElem? (i := 67) (by decide +kernel))), by decide +kernel⟩
theorem tb_68 : Cond.fieldLink "TurnCounts$Group" 24 "TurnCounts$Group" "makerCount" "I" ∈ tg := List.mem_filter.mpr ⟨List.mem_append_right _ (List.mem_append_left _ (List.mem_of_getElem? (i := 68) (by decide +kernel))), by decide +kernel⟩
theorem tb_69 : Cond.fieldLink "TurnCounts$PatternTable" 70 "TurnCounts$Group" "makerCount" "I" ∈ tg := List.mem_filter.mpr ⟨List.mem_append_right _ (List.mem_append_left _ (List.mem_of_getElem? (i := 69) (by decide +kernel))), by decide +kernel⟩
theorem tb_70 : Cond.fieldLink "TurnCounts$Group" 18 "TurnCounts$Group" "members" "[I" ∈ tg := List.mem_filter.mpr ⟨List.mem_append_right _ (List.mem_append_left _ (List.mem_of_getElem? (i := 70) (by decide +kernel))), by decide +kernel⟩
theorem tb_71 : Cond.laysFinal "TurnCounts$Group" "TurnCounts$Group" "turns" "[I" ∈ tg := List.mem_filter.mpr ⟨List.mem_append_right _ (List.mem_append_left _ (List.mem_of_getElem? (i := 71) (by decide +kernel))), by decide +kernel⟩
theorem tb_73 : Cond.lays "TurnCounts$Group" "TurnCounts$Group" "size" "I" ∈ tg := List.mem_filter.mpr ⟨List.mem_append_right _ (List.mem_append_left _ (List.mem_of_getElem? (i := 73) (by decide +kernel))), by decide +kernel⟩
theorem tb_75 : Cond.laysFinal "TurnCounts$Group" "TurnCounts$Group" "makers" "[I" ∈ tg := List.mem_filter.mpr ⟨List.mem_append_right _ (List.mem_append_left _ (List.mem_of_getElem? (i := 75) (by decide +kernel))), by decide +kernel⟩
theorem tb_77 : Cond.lays "TurnCounts$Group" "TurnCounts$Group" "makerCount" "I" ∈ tg := List.mem_filter.mpr ⟨List.mem_append_right _ (List.mem_append_left _ (List.mem_of_getElem? (i := 77) (by decide +kernel))), by decide +kernel⟩
theorem tb_79 : Cond.laysFinal "TurnCounts$Group" "TurnCounts$Group" "members" "[I" ∈ tg := List.mem_filter.mpr ⟨List.mem_append_right _ (List.mem_append_left _ (List.mem_of_getElem? (i := 79) (by decide +kernel))), by decide +kernel⟩
theorem tb_82 : Cond.arrayClass FieldType.int ∈ tg := List.mem_filter.mpr ⟨List.mem_append_right _ (List.mem_append_left _ (List.mem_of_getElem? (i := 82) (by decide +kernel))), by decide +kernel⟩
theorem tb_83 : Cond.fieldLink "TurnCounts$Setting" 9 "TurnCounts$Setting" "many" "I" ∈ tg := List.mem_filter.mpr ⟨List.mem_append_right _ (List.mem_append_left _ (List.mem_of_getElem? (i := 83) (by decide +kernel))), by decide +kernel⟩
theorem tb_84 : Cond.fieldLink "TurnCounts" 49 "TurnCounts$Setting" "many" "I" ∈ tg := List.mem_filter.mpr ⟨List.mem_append_right _ (List.mem_append_left _ (List.mem_of_getElem? (i := 84) (by decide +kernel))), by decide +kernel⟩
theorem tb_85 : Cond.fieldLink "TurnCounts$TypeTable" 38 "TurnCounts$Setting" "many" "I" ∈ tg := List.mem_filter.mpr ⟨List.mem_append_right _ (List.mem_append_left _ (List.mem_of_getElem? (i := 85) (by decide +kernel))), by decide +kernel⟩
theorem tb_86 : Cond.fieldLink "TurnCounts$PatternTable" 64 "TurnCounts$Setting" "many" "I" ∈ tg := List.mem_filter.mpr ⟨List.mem_append_right _ (List.mem_append_left _ (List.mem_of_getElem? (i := 86) (by decide +kernel))), by decide +kernel⟩
theorem tb_87 : Cond.fieldLink "TurnCounts$Setting" 15 "TurnCounts$Setting" "sortCount" "I" ∈ tg := List.mem_filter.mpr ⟨List.mem_append_right _ (List.mem_append_left _ (List.mem_of_getElem? (i := 87) (by decide +kernel))), by decide +kernel⟩
theorem tb_88 : Cond.fieldLink "TurnCounts$PatternTable" 65 "TurnCounts$Setting" "sortCount" "I" ∈ tg := List.mem_filter.mpr ⟨List.mem_append_right _ (List.mem_append_left _ (List.mem_of_getElem? (i := 88) (by decide +kernel))), by decide +kernel⟩
theorem tb_89 : Cond.fieldLink "TurnCounts" 121 "TurnCounts$Setting" "sortCount" "I" ∈ tg := List.mem_filter.mpr ⟨List.mem_append_right _ (List.mem_append_left _ (List.mem_of_getElem? (i := 89) (by decide +kernel))), by decide +kernel⟩
theorem tb_90 : Cond.fieldLink "TurnCounts$Setting" 18 "TurnCounts$Setting" "weights" "[I" ∈ tg := List.mem_filter.mpr ⟨List.mem_append_right _ (List.mem_append_left _ (List.mem_of_getElem? (i := 90) (by decide +kernel))), by decide +kernel⟩
theorem tb_91 : Cond.fieldLink "TurnCounts" 128 "TurnCounts$Setting" "weights" "[I" ∈ tg := List.mem_filter.mpr ⟨List.mem_append_right _ (List.mem_append_left _ (List.mem_of_getElem? (i := 91) (by decide +kernel))), by decide +kernel⟩
theorem tb_92 : Cond.fieldLink "TurnCounts$Setting" 25 "TurnCounts$Setting" "group" "LTurnCounts$Group;" ∈ tg := List.mem_filter.mpr ⟨List.mem_append_right _ (List.mem_append_left _ (List.mem_of_getElem? (i := 92) (by decide +kernel))), by decide +kernel⟩
theorem tb_93 : Cond.fieldLink "TurnCounts$TypeTable" 26 "TurnCounts$Setting" "group" "LTurnCounts$Group;" ∈ tg := List.mem_filter.mpr ⟨List.mem_append_right _ (List.mem_append_left _ (List.mem_of_getElem? (i := 93) (by decide +kernel))), by decide +kernel⟩
theorem tb_94 : Cond.fieldLink "TurnCounts" 52 "TurnCounts$Setting" "group" "LTurnCounts$Group;" ∈ tg := List.mem_filter.mpr ⟨List.mem_append_right _ (List.mem_append_left _ (List.mem_of_getElem? (i := 94) (by decide +kernel))), by decide +kernel⟩
theorem tb_95 : Cond.fieldLink "TurnCounts$PatternTable" 56 "TurnCounts$Setting" "group" "LTurnCounts$Group;" ∈ tg := List.mem_filter.mpr ⟨List.mem_append_right _ (List.mem_append_left _ (List.mem_of_getElem? (i := 95) (by decide +kernel))), by decide +kernel⟩
theorem tb_96 : Cond.lays "TurnCounts$Setting" "TurnCounts$Setting" "many" "I" ∈ tg := List.mem_filter.mpr ⟨List.mem_append_right _ (List.mem_append_left _ (List.mem_of_getElem? (i := 96) (by decide +kernel))), by decide +kernel⟩
theorem tb_98 : Cond.lays "TurnCounts$Setting" "TurnCounts$Setting" "sortCount" "I" ∈ tg := List.mem_filter.mpr ⟨List.mem_append_right _ (List.mem_append_left _ (List.mem_of_getElem? (i := 98) (by decide +kernel))), by decide +kernel⟩
theorem tb_100 : Cond.laysFinal "TurnCounts$Setting" "TurnCounts$Setting" "weights" "[I" ∈ tg := List.mem_filter.mpr ⟨List.mem_append_right _ (List.mem_append_left _ (List.mem_of_getElem? (i := 100) (by decide +kernel))), by decide +kernel⟩
theorem tb_102 : Cond.laysFinal "TurnCounts$Setting" "TurnCounts$Setting" "group" "LTurnCounts$Group;" ∈ tg := List.mem_filter.mpr ⟨List.mem_append_right _ (List.mem_append_left _ (List.mem_of_getElem? (i := 102) (by decide +kernel))), by decide +kernel⟩
theorem tb_105 : Cond.arrayOver (FieldType.object "TurnCounts$Setting") ∈ lw_tbl := List.mem_append_right _ (List.mem_append_left _ (List.mem_of_getElem? (i := 105) (by decide +kernel)))
theorem tb_106 : Cond.classLink "TurnCounts" 24 "TurnCounts$Pad" ∈ tg := List.mem_filter.mpr ⟨List.mem_append_right _ (List.mem_append_left _ (List.mem_of_getElem? (i := 106) (by decide +kernel))), by decide +kernel⟩
theorem tb_107 : Cond.instantiable "TurnCounts$Pad" 2 ∈ tg := List.mem_filter.mpr ⟨List.mem_append_right _ (List.mem_append_left _ (List.mem_of_getElem? (i := 107) (by decide +kernel))), by decide +kernel⟩
theorem tb_108 : Cond.methodLink "TurnCounts" 26 ⟨"TurnCounts$Pad", "<init>", "()V"⟩ ∈ tg := List.mem_filter.mpr ⟨List.mem_append_right _ (List.mem_append_left _ (List.mem_of_getElem? (i := 108) (by decide +kernel))), by decide +kernel⟩
theorem tb_109 : Cond.instanceMethod ⟨"TurnCounts$Pad", "<init>", "()V"⟩ ∈ tg := List.mem_filter.mpr ⟨List.mem_append_right _ (List.mem_append_left _ (List.mem_of_getElem? (i := 109) (by decide +kernel))), by decide +kernel⟩
theorem tb_110 : Cond.code ⟨"TurnCounts$Pad", "<init>", "()V"⟩ prog_3_method_1_code 1 (Option.none : Option FieldType) ∈ tg := List.mem_filter.mpr ⟨List.mem_append_right _ (List.mem_append_left _ (List.mem_of_getElem? (i := 110) (by decide +kernel))), by decide +kernel⟩
theorem tb_111 : Cond.methodLink "TurnCounts$Pad" 3 ⟨"java/lang/Object", "<init>", "()V"⟩ ∈ tg := List.mem_filter.mpr ⟨List.mem_append_right _ (List.mem_append_left _ (List.mem_of_getElem? (i := 111) (by decide +kernel))), by decide +kernel⟩
theorem tb_112 : Cond.fieldLink "TurnCounts$Pad" 9 "TurnCounts$Pad" "signs" "[I" ∈ tg := List.mem_filter.mpr ⟨List.mem_append_right _ (List.mem_append_left _ (List.mem_of_getElem? (i := 112) (by decide +kernel))), by decide +kernel⟩
theorem tb_113 : Cond.fieldLink "TurnCounts" 89 "TurnCounts$Pad" "signs" "[I" ∈ tg := List.mem_filter.mpr ⟨List.mem_append_right _ (List.mem_append_left _ (List.mem_of_getElem? (i := 113) (by decide +kernel))), by decide +kernel⟩
theorem tb_114 : Cond.fieldLink "TurnCounts$Pad" 15 "TurnCounts$Pad" "length" "I" ∈ tg := List.mem_filter.mpr ⟨List.mem_append_right _ (List.mem_append_left _ (List.mem_of_getElem? (i := 114) (by decide +kernel))), by decide +kernel⟩
theorem tb_115 : Cond.fieldLink "TurnCounts" 79 "TurnCounts$Pad" "length" "I" ∈ tg := List.mem_filter.mpr ⟨List.mem_append_right _ (List.mem_append_left _ (List.mem_of_getElem? (i := 115) (by decide +kernel))), by decide +kernel⟩
theorem tb_116 : Cond.laysFinal "TurnCounts$Pad" "TurnCounts$Pad" "signs" "[I" ∈ tg := List.mem_filter.mpr ⟨List.mem_append_right _ (List.mem_append_left _ (List.mem_of_getElem? (i := 116) (by decide +kernel))), by decide +kernel⟩
theorem tb_118 : Cond.lays "TurnCounts$Pad" "TurnCounts$Pad" "length" "I" ∈ tg := List.mem_filter.mpr ⟨List.mem_append_right _ (List.mem_append_left _ (List.mem_of_getElem? (i := 118) (by decide +kernel))), by decide +kernel⟩
theorem tb_121 : Cond.classLink "TurnCounts" 31 "TurnCounts$TypeTable" ∈ tg := List.mem_filter.mpr ⟨List.mem_append_right _ (List.mem_append_left _ (List.mem_of_getElem? (i := 121) (by decide +kernel))), by decide +kernel⟩
theorem tb_122 : Cond.instantiable "TurnCounts$TypeTable" 4 ∈ tg := List.mem_filter.mpr ⟨List.mem_append_right _ (List.mem_append_left _ (List.mem_of_getElem? (i := 122) (by decide +kernel))), by decide +kernel⟩
theorem tb_123 : Cond.methodLink "TurnCounts" 33 ⟨"TurnCounts$TypeTable", "<init>", "()V"⟩ ∈ tg := List.mem_filter.mpr ⟨List.mem_append_right _ (List.mem_append_left _ (List.mem_of_getElem? (i := 123) (by decide +kernel))), by decide +kernel⟩
theorem tb_124 : Cond.instanceMethod ⟨"TurnCounts$TypeTable", "<init>", "()V"⟩ ∈ tg := List.mem_filter.mpr ⟨List.mem_append_right _ (List.mem_append_left _ (List.mem_of_getElem? (i := 124) (by decide +kernel))), by decide +kernel⟩
theorem tb_125 : Cond.code ⟨"TurnCounts$TypeTable", "<init>", "()V"⟩ prog_7_method_1_code 1 (Option.none : Option FieldType) ∈ tg := List.mem_filter.mpr ⟨List.mem_append_right _ (List.mem_append_left _ (List.mem_of_getElem? (i := 125) (by decide +kernel))), by decide +kernel⟩
theorem tb_126 : Cond.methodLink "TurnCounts$TypeTable" 3 ⟨"java/lang/Object", "<init>", "()V"⟩ ∈ tg := List.mem_filter.mpr ⟨List.mem_append_right _ (List.mem_append_left _ (List.mem_of_getElem? (i := 126) (by decide +kernel))), by decide +kernel⟩
theorem tb_127 : Cond.fieldLink "TurnCounts$TypeTable" 9 "TurnCounts$TypeTable" "figures" "[I" ∈ tg := List.mem_filter.mpr ⟨List.mem_append_right _ (List.mem_append_left _ (List.mem_of_getElem? (i := 127) (by decide +kernel))), by decide +kernel⟩
theorem tb_128 : Cond.fieldLink "TurnCounts" 109 "TurnCounts$TypeTable" "figures" "[I" ∈ tg := List.mem_filter.mpr ⟨List.mem_append_right _ (List.mem_append_left _ (List.mem_of_getElem? (i := 128) (by decide +kernel))), by decide +kernel⟩
theorem tb_129 : Cond.fieldLink "TurnCounts$TypeTable" 15 "TurnCounts$TypeTable" "turns" "[I" ∈ tg := List.mem_filter.mpr ⟨List.mem_append_right _ (List.mem_append_left _ (List.mem_of_getElem? (i := 129) (by decide +kernel))), by decide +kernel⟩
theorem tb_130 : Cond.fieldLink "TurnCounts" 112 "TurnCounts$TypeTable" "turns" "[I" ∈ tg := List.mem_filter.mpr ⟨List.mem_append_right _ (List.mem_append_left _ (List.mem_of_getElem? (i := 130) (by decide +kernel))), by decide +kernel⟩
theorem tb_131 : Cond.fieldLink "TurnCounts$TypeTable" 18 "TurnCounts$TypeTable" "amount" "I" ∈ tg := List.mem_filter.mpr ⟨List.mem_append_right _ (List.mem_append_left _ (List.mem_of_getElem? (i := 131) (by decide +kernel))), by decide +kernel⟩
theorem tb_132 : Cond.fieldLink "TurnCounts" 106 "TurnCounts$TypeTable" "amount" "I" ∈ tg := List.mem_filter.mpr ⟨List.mem_append_right _ (List.mem_append_left _ (List.mem_of_getElem? (i := 132) (by decide +kernel))), by decide +kernel⟩
theorem tb_133 : Cond.fieldLink "TurnCounts$TypeTable" 22 "TurnCounts$TypeTable" "upToDate" "Z" ∈ tg := List.mem_filter.mpr ⟨List.mem_append_right _ (List.mem_append_left _ (List.mem_of_getElem? (i := 133) (by decide +kernel))), by decide +kernel⟩
theorem tb_134 : Cond.fieldLink "TurnCounts" 191 "TurnCounts$TypeTable" "upToDate" "Z" ∈ tg := List.mem_filter.mpr ⟨List.mem_append_right _ (List.mem_append_left _ (List.mem_of_getElem? (i := 134) (by decide +kernel))), by decide +kernel⟩
theorem tb_135 : Cond.laysFinal "TurnCounts$TypeTable" "TurnCounts$TypeTable" "figures" "[I" ∈ tg := List.mem_filter.mpr ⟨List.mem_append_right _ (List.mem_append_left _ (List.mem_of_getElem? (i := 135) (by decide +kernel))), by decide +kernel⟩
theorem tb_137 : Cond.laysFinal "TurnCounts$TypeTable" "TurnCounts$TypeTable" "turns" "[I" ∈ tg := List.mem_filter.mpr ⟨List.mem_append_right _ (List.mem_append_left _ (List.mem_of_getElem? (i := 137) (by decide +kernel))), by decide +kernel⟩
theorem tb_139 : Cond.lays "TurnCounts$TypeTable" "TurnCounts$TypeTable" "amount" "I" ∈ tg := List.mem_filter.mpr ⟨List.mem_append_right _ (List.mem_append_left _ (List.mem_of_getElem? (i := 139) (by decide +kernel))), by decide +kernel⟩
theorem tb_141 : Cond.lays "TurnCounts$TypeTable" "TurnCounts$TypeTable" "upToDate" "Z" ∈ tg := List.mem_filter.mpr ⟨List.mem_append_right _ (List.mem_append_left _ (List.mem_of_getElem? (i := 141) (by decide +kernel))), by decide +kernel⟩
theorem tb_144 : Cond.classLink "TurnCounts" 38 "TurnCounts$PatternTable" ∈ tg := List.mem_filter.mpr ⟨List.mem_append_right _ (List.mem_append_left _ (List.mem_of_getElem? (i := 144) (by decide +kernel))), by decide +kernel⟩
theorem tb_145 : Cond.instantiable "TurnCounts$PatternTable" 9 ∈ tg := List.mem_filter.mpr ⟨List.mem_append_right _ (List.mem_append_left _ (List.mem_of_getElem? (i := 145) (by decide +kernel))), by decide +kernel⟩
theorem tb_146 : Cond.methodLink "TurnCounts" 40 ⟨"TurnCounts$PatternTable", "<init>", "()V"⟩ ∈ tg := List.mem_filter.mpr ⟨List.mem_append_right _ (List.mem_append_left _ (List.mem_of_getElem? (i := 146) (by decide +kernel))), by decide +kernel⟩
theorem tb_147 : Cond.instanceMethod ⟨"TurnCounts$PatternTable", "<init>", "()V"⟩ ∈ tg := List.mem_filter.mpr ⟨List.mem_append_right _ (List.mem_append_left _ (List.mem_of_getElem? (i := 147) (by decide +kernel))), by decide +kernel⟩
theorem tb_148 : Cond.code ⟨"TurnCounts$PatternTable", "<init>", "()V"⟩ prog_4_method_1_code 1 (Option.none : Option FieldType) ∈ tg := List.mem_filter.mpr ⟨List.mem_append_right _ (List.mem_append_left _ (List.mem_of_getElem? (i := 148) (by decide +kernel))), by decide +kernel⟩
theorem tb_149 : Cond.methodLink "TurnCounts$PatternTable" 3 ⟨"java/lang/Object", "<init>", "()V"⟩ ∈ tg := List.mem_filter.mpr ⟨List.mem_append_right _ (List.mem_append_left _ (List.mem_of_getElem? (i := 149) (by decide +kernel))), by decide +kernel⟩
theorem tb_150 : Cond.fieldLink "TurnCounts$PatternTable" 9 "TurnCounts$PatternTable" "patternNumbers" "[I" ∈ tg := List.mem_filter.mpr ⟨List.mem_append_right _ (List.mem_append_left _ (List.mem_of_getElem? (i := 150) (by decide +kernel))), by decide +kernel⟩
theorem tb_151 : Cond.fieldLink "TurnCounts$PatternTable" 15 "TurnCounts$PatternTable" "colourings" "[I" ∈ tg := List.mem_filter.mpr ⟨List.mem_append_right _ (List.mem_append_left _ (List.mem_of_getElem? (i := 151) (by decide +kernel))), by decide +kernel⟩
theorem tb_152 : Cond.fieldLink "TurnCounts$PatternTable" 18 "TurnCounts$PatternTable" "starts" "[I" ∈ tg := List.mem_filter.mpr ⟨List.mem_append_right _ (List.mem_append_left _ (List.mem_of_getElem? (i := 152) (by decide +kernel))), by decide +kernel⟩
theorem tb_153 : Cond.fieldLink "TurnCounts$PatternTable" 21 "TurnCounts$PatternTable" "places" "[I" ∈ tg := List.mem_filter.mpr ⟨List.mem_append_right _ (List.mem_append_left _ (List.mem_of_getElem? (i := 153) (by decide +kernel))), by decide +kernel⟩
theorem tb_154 : Cond.fieldLink "TurnCounts$PatternTable" 24 "TurnCounts$PatternTable" "many" "I" ∈ tg := List.mem_filter.mpr ⟨List.mem_append_right _ (List.mem_append_left _ (List.mem_of_getElem? (i := 154) (by decide +kernel))), by decide +kernel⟩
theorem tb_155 : Cond.fieldLink "TurnCounts$PatternTable" 28 "TurnCounts$PatternTable" "sortCount" "I" ∈ tg := List.mem_filter.mpr ⟨List.mem_append_right _ (List.mem_append_left _ (List.mem_of_getElem? (i := 155) (by decide +kernel))), by decide +kernel⟩
theorem tb_156 : Cond.fieldLink "TurnCounts$PatternTable" 31 "TurnCounts$PatternTable" "filled" "I" ∈ tg := List.mem_filter.mpr ⟨List.mem_append_right _ (List.mem_append_left _ (List.mem_of_getElem? (i := 156) (by decide +kernel))), by decide +kernel⟩
theorem tb_157 : Cond.fieldLink "TurnCounts$PatternTable" 34 "TurnCounts$PatternTable" "amount" "I" ∈ tg := List.mem_filter.mpr ⟨List.mem_append_right _ (List.mem_append_left _ (List.mem_of_getElem? (i := 157) (by decide +kernel))), by decide +kernel⟩
theorem tb_158 : Cond.fieldLink "TurnCounts" 132 "TurnCounts$PatternTable" "amount" "I" ∈ tg := List.mem_filter.mpr ⟨List.mem_append_right _ (List.mem_append_left _ (List.mem_of_getElem? (i := 158) (by decide +kernel))), by decide +kernel⟩
theorem tb_159 : Cond.fieldLink "TurnCounts$PatternTable" 37 "TurnCounts$PatternTable" "upToDate" "Z" ∈ tg := List.mem_filter.mpr ⟨List.mem_append_right _ (List.mem_append_left _ (List.mem_of_getElem? (i := 159) (by decide +kernel))), by decide +kernel⟩
theorem tb_160 : Cond.fieldLink "TurnCounts" 124 "TurnCounts$PatternTable" "upToDate" "Z" ∈ tg := List.mem_filter.mpr ⟨List.mem_append_right _ (List.mem_append_left _ (List.mem_of_getElem? (i := 160) (by decide +kernel))), by decide +kernel⟩
theorem tb_161 : Cond.laysFinal "TurnCounts$PatternTable" "TurnCounts$PatternTable" "patternNumbers" "[I" ∈ tg := List.mem_filter.mpr ⟨List.mem_append_right _ (List.mem_append_left _ (List.mem_of_getElem? (i := 161) (by decide +kernel))), by decide +kernel⟩
theorem tb_163 : Cond.laysFinal "TurnCounts$PatternTable" "TurnCounts$PatternTable" "colourings" "[I" ∈ tg := List.mem_filter.mpr ⟨List.mem_append_right _ (List.mem_append_left _ (List.mem_of_getElem? (i := 163) (by decide +kernel))), by decide +kernel⟩
theorem tb_165 : Cond.laysFinal "TurnCounts$PatternTable" "TurnCounts$PatternTable" "starts" "[I" ∈ tg := List.mem_filter.mpr ⟨List.mem_append_right _ (List.mem_append_left _ (List.mem_of_getElem? (i := 165) (by decide +kernel))), by decide +kernel⟩
theorem tb_167 : Cond.laysFinal "TurnCounts$PatternTable" "TurnCounts$PatternTable" "places" "[I" ∈ tg := List.mem_filter.mpr ⟨List.mem_append_right _ (List.mem_append_left _ (List.mem_of_getElem? (i := 167) (by decide +kernel))), by decide +kernel⟩
theorem tb_169 : Cond.lays "TurnCounts$PatternTable" "TurnCounts$PatternTable" "many" "I" ∈ tg := List.mem_filter.mpr ⟨List.mem_append_right _ (List.mem_append_left _ (List.mem_of_getElem? (i := 169) (by decide +kernel))), by decide +kernel⟩
theorem tb_171 : Cond.lays "TurnCounts$PatternTable" "TurnCounts$PatternTable" "sortCount" "I" ∈ tg := List.mem_filter.mpr ⟨List.mem_append_right _ (List.mem_append_left _ (List.mem_of_getElem? (i := 171) (by decide +kernel))), by decide +kernel⟩
theorem tb_173 : Cond.lays "TurnCounts$PatternTable" "TurnCounts$PatternTable" "filled" "I" ∈ tg := List.mem_filter.mpr ⟨List.mem_append_right _ (List.mem_append_left _ (List.mem_of_getElem? (i := 173) (by decide +kernel))), by decide +kernel⟩
theorem tb_175 : Cond.lays "TurnCounts$PatternTable" "TurnCounts$PatternTable" "amount" "I" ∈ tg := List.mem_filter.mpr ⟨List.mem_append_right _ (List.mem_append_left _ (List.mem_of_getElem? (i := 175) (by decide +kernel))), by decide +kernel⟩
theorem tb_177 : Cond.lays "TurnCounts$PatternTable" "TurnCounts$PatternTable" "upToDate" "Z" ∈ tg := List.mem_filter.mpr ⟨List.mem_append_right _ (List.mem_append_left _ (List.mem_of_getElem? (i := 177) (by decide +kernel))), by decide +kernel⟩
theorem tb_180 : Cond.fieldLink "TurnCounts" 10 "TurnCounts" "now" "LTurnCounts$Setting;" ∈ tg := List.mem_filter.mpr ⟨List.mem_append_right _ (List.mem_append_left _ (List.mem_of_getElem? (i := 180) (by decide +kernel))), by decide +kernel⟩
theorem tb_181 : Cond.fieldLink "TurnCounts" 16 "TurnCounts" "kept" "[LTurnCounts$Setting;" ∈ tg := List.mem_filter.mpr ⟨List.mem_append_right _ (List.mem_append_left _ (List.mem_of_getElem? (i := 181) (by decide +kernel))), by decide +kernel⟩
theorem tb_182 : Cond.fieldLink "TurnCounts" 20 "TurnCounts" "keptSet" "I" ∈ tg := List.mem_filter.mpr ⟨List.mem_append_right _ (List.mem_append_left _ (List.mem_of_getElem? (i := 182) (by decide +kernel))), by decide +kernel⟩
theorem tb_183 : Cond.fieldLink "TurnCounts" 27 "TurnCounts" "pad" "LTurnCounts$Pad;" ∈ tg := List.mem_filter.mpr ⟨List.mem_append_right _ (List.mem_append_left _ (List.mem_of_getElem? (i := 183) (by decide +kernel))), by decide +kernel⟩
theorem tb_184 : Cond.fieldLink "TurnCounts" 34 "TurnCounts" "types" "LTurnCounts$TypeTable;" ∈ tg := List.mem_filter.mpr ⟨List.mem_append_right _ (List.mem_append_left _ (List.mem_of_getElem? (i := 184) (by decide +kernel))), by decide +kernel⟩
theorem tb_185 : Cond.fieldLink "TurnCounts" 41 "TurnCounts" "table" "LTurnCounts$PatternTable;" ∈ tg := List.mem_filter.mpr ⟨List.mem_append_right _ (List.mem_append_left _ (List.mem_of_getElem? (i := 185) (by decide +kernel))), by decide +kernel⟩
theorem tb_186 : Cond.laysFinal "TurnCounts" "TurnCounts" "now" "LTurnCounts$Setting;" ∈ tg := List.mem_filter.mpr ⟨List.mem_append_right _ (List.mem_append_left _ (List.mem_of_getElem? (i := 186) (by decide +kernel))), by decide +kernel⟩
theorem tb_188 : Cond.laysFinal "TurnCounts" "TurnCounts" "kept" "[LTurnCounts$Setting;" ∈ tg := List.mem_filter.mpr ⟨List.mem_append_right _ (List.mem_append_left _ (List.mem_of_getElem? (i := 188) (by decide +kernel))), by decide +kernel⟩
theorem tb_190 : Cond.lays "TurnCounts" "TurnCounts" "keptSet" "I" ∈ tg := List.mem_filter.mpr ⟨List.mem_append_right _ (List.mem_append_left _ (List.mem_of_getElem? (i := 190) (by decide +kernel))), by decide +kernel⟩
theorem tb_192 : Cond.laysFinal "TurnCounts" "TurnCounts" "pad" "LTurnCounts$Pad;" ∈ tg := List.mem_filter.mpr ⟨List.mem_append_right _ (List.mem_append_left _ (List.mem_of_getElem? (i := 192) (by decide +kernel))), by decide +kernel⟩
theorem tb_194 : Cond.laysFinal "TurnCounts" "TurnCounts" "types" "LTurnCounts$TypeTable;" ∈ tg := List.mem_filter.mpr ⟨List.mem_append_right _ (List.mem_append_left _ (List.mem_of_getElem? (i := 194) (by decide +kernel))), by decide +kernel⟩
theorem tb_196 : Cond.laysFinal "TurnCounts" "TurnCounts" "table" "LTurnCounts$PatternTable;" ∈ tg := List.mem_filter.mpr ⟨List.mem_append_right _ (List.mem_append_left _ (List.mem_of_getElem? (i := 196) (by decide +kernel))), by decide +kernel⟩
theorem tb_199 : Cond.methodLink "TurnCountsLaw" 13 ⟨"TurnCounts", "points", "(I)I"⟩ ∈ tg := List.mem_filter.mpr ⟨List.mem_append_right _ (List.mem_append_left _ (List.mem_of_getElem? (i := 199) (by decide +kernel))), by decide +kernel⟩
theorem tb_200 : Cond.instanceMethod ⟨"TurnCounts", "points", "(I)I"⟩ ∈ tg := List.mem_filter.mpr ⟨List.mem_append_right _ (List.mem_append_left _ (List.mem_of_getElem? (i := 200) (by decide +kernel))), by decide +kernel⟩
theorem tb_201 : Cond.selects "TurnCounts" ⟨"TurnCounts", "points", "(I)I"⟩ ⟨"TurnCounts", "points", "(I)I"⟩ ∈ tg := List.mem_filter.mpr ⟨List.mem_append_right _ (List.mem_append_left _ (List.mem_of_getElem? (i := 201) (by decide +kernel))), by decide +kernel⟩
theorem tb_202 : Cond.code ⟨"TurnCounts", "points", "(I)I"⟩ prog_1_method_2_code 3 (Option.some FieldType.int) ∈ tg := List.mem_filter.mpr ⟨List.mem_append_right _ (List.mem_append_left _ (List.mem_of_getElem? (i := 202) (by decide +kernel))), by decide +kernel⟩
theorem tb_203 : Cond.methodLink "TurnCounts" 45 ⟨"TurnCounts", "isWithin", "(III)Z"⟩ ∈ tg := List.mem_filter.mpr ⟨List.mem_append_right _ (List.mem_append_left _ (List.mem_of_getElem? (i := 203) (by decide +kernel))), by decide +kernel⟩
theorem tb_204 : Cond.methodLink "TurnCounts" 56 ⟨"TurnCounts$Group", "makeStill", "()V"⟩ ∈ tg := List.mem_filter.mpr ⟨List.mem_append_right _ (List.mem_append_left _ (List.mem_of_getElem? (i := 204) (by decide +kernel))), by decide +kernel⟩
theorem tb_205 : Cond.methodLink "TurnCounts" 61 ⟨"TurnCounts", "forgetGroup", "()V"⟩ ∈ tg := List.mem_filter.mpr ⟨List.mem_append_right _ (List.mem_append_left _ (List.mem_of_getElem? (i := 205) (by decide +kernel))), by decide +kernel⟩
theorem tb_207 : Cond.instanceMethod ⟨"TurnCounts", "forgetGroup", "()V"⟩ ∈ tg := List.mem_filter.mpr ⟨List.mem_append_right _ (List.mem_append_left _ (List.mem_of_getElem? (i := 207) (by decide +kernel))), by decide +kernel⟩
theorem tb_208 : Cond.code ⟨"TurnCounts", "forgetGroup", "()V"⟩ prog_1_method_24_code 1 (Option.none : Option FieldType) ∈ tg := List.mem_filter.mpr ⟨List.mem_append_right _ (List.mem_append_left _ (List.mem_of_getElem? (i := 208) (by decide +kernel))), by decide +kernel⟩
theorem tb_209 : Cond.methodLink "TurnCountsLaw" 18 ⟨"TurnCounts", "beside", "(III)I"⟩ ∈ tg := List.mem_filter.mpr ⟨List.mem_append_right _ (List.mem_append_left _ (List.mem_of_getElem? (i := 209) (by decide +kernel))), by decide +kernel⟩
theorem tb_210 : Cond.instanceMethod ⟨"TurnCounts", "beside", "(III)I"⟩ ∈ tg := List.mem_filter.mpr ⟨List.mem_append_right _ (List.mem_append_left _ (List.mem_of_getElem? (i := 210) (by decide +kernel))), by decide +kernel⟩
theorem tb_211 : Cond.selects "TurnCounts" ⟨"TurnCounts", "beside", "(III)I"⟩ ⟨"TurnCounts", "beside", "(III)I"⟩ ∈ tg := List.mem_filter.mpr ⟨List.mem_append_right _ (List.mem_append_left _ (List.mem_of_getElem? (i := 211) (by decide +kernel))), by decide +kernel⟩
theorem tb_212 : Cond.code ⟨"TurnCounts", "beside", "(III)I"⟩ prog_1_method_3_code 4 (Option.some FieldType.int) ∈ tg := List.mem_filter.mpr ⟨List.mem_append_right _ (List.mem_append_left _ (List.mem_of_getElem? (i := 212) (by decide +kernel))), by decide +kernel⟩
theorem tb_213 : Cond.methodLink "TurnCounts" 64 ⟨"TurnCounts", "isKind", "(I)Z"⟩ ∈ tg := List.mem_filter.mpr ⟨List.mem_append_right _ (List.mem_append_left _ (List.mem_of_getElem? (i := 213) (by decide +kernel))), by decide +kernel⟩
theorem tb_214 : Cond.static ⟨"TurnCounts", "isKind", "(I)Z"⟩ ∈ tg := List.mem_filter.mpr ⟨List.mem_append_right _ (List.mem_append_left _ (List.mem_of_getElem? (i := 214) (by decide +kernel))), by decide +kernel⟩
theorem tb_215 : Cond.code ⟨"TurnCounts", "isKind", "(I)Z"⟩ prog_1_method_22_code 1 (Option.some FieldType.boolean) ∈ tg := List.mem_filter.mpr ⟨List.mem_append_right _ (List.mem_append_left _ (List.mem_of_getElem? (i := 215) (by decide +kernel))), by decide +kernel⟩
theorem tb_216 : Cond.methodLink "TurnCounts" 68 ⟨"TurnCounts$Group", "widenByKind", "(IIII)V"⟩ ∈ tg := List.mem_filter.mpr ⟨List.mem_append_right _ (List.mem_append_left _ (List.mem_of_getElem? (i := 216) (by decide +kernel))), by decide +kernel⟩
theorem tb_217 : Cond.instanceMethod ⟨"TurnCounts$Group", "widenByKind", "(IIII)V"⟩ ∈ tg := List.mem_filter.mpr ⟨List.mem_append_right _ (List.mem_append_left _ (List.mem_of_getElem? (i := 217) (by decide +kernel))), by decide +kernel⟩
theorem tb_218 : Cond.selects "TurnCounts$Group" ⟨"TurnCounts$Group", "widenByKind", "(IIII)V"⟩ ⟨"TurnCounts$Group", "widenByKind", "(IIII)V"⟩ ∈ tg := List.mem_filter.mpr ⟨List.mem_append_right _ (List.mem_append_left _ (List.mem_of_getElem? (i := 218) (by decide +kernel))), by decide +kernel⟩
theorem tb_219 : Cond.code ⟨"TurnCounts$Group", "widenByKind", "(IIII)V"⟩ prog_2_method_7_code 6 (Option.none : Option FieldType) ∈ tg := List.mem_filter.mpr ⟨List.mem_append_right _ (List.mem_append_left _ (List.mem_of_getElem? (i := 219) (by decide +kernel))), by decide +kernel⟩
theorem tb_220 : Cond.methodLink "TurnCounts$Group" 56 ⟨"TurnCounts$Turns", "roundTurn", "(III)I"⟩ ∈ tg := List.mem_filter.mpr ⟨List.mem_append_right _ (List.mem_append_left _ (List.mem_of_getElem? (i := 220) (by decide +kernel))), by decide +kernel⟩
theorem tb_221 : Cond.static ⟨"TurnCounts$Turns", "roundTurn", "(III)I"⟩ ∈ tg := List.mem_filter.mpr ⟨List.mem_append_right _ (List.mem_append_left _ (List.mem_of_getElem? (i := 221) (by decide +kernel))), by decide +kernel⟩
theorem tb_222 : Cond.code ⟨"TurnCounts$Turns", "roundTurn", "(III)I"⟩ prog_6_method_9_code 6 (Option.some FieldType.int) ∈ tg := List.mem_filter.mpr ⟨List.mem_append_right _ (List.mem_append_left _ (List.mem_of_getElem? (i := 222) (by decide +kernel))), by decide +kernel⟩
theorem tb_223 : Cond.constant "TurnCounts$Turns" 24 (42798 : Int32) ∈ tg := List.mem_filter.mpr ⟨List.mem_append_right _ (List.mem_append_left _ (List.mem_of_getElem? (i := 223) (by decide +kernel))), by decide +kernel⟩
theorem tb_224 : Cond.methodLink "TurnCounts$Turns" 28 ⟨"TurnCounts$Turns", "withThing", "(IIII)I"⟩ ∈ tg := List.mem_filter.mpr ⟨List.mem_append_right _ (List.mem_append_left _ (List.mem_of_getElem? (i := 224) (by decide +kernel))), by decide +kernel⟩
theorem tb_225 : Cond.static ⟨"TurnCounts$Turns", "withThing", "(IIII)I"⟩ ∈ tg := List.mem_filter.mpr ⟨List.mem_append_right _ (List.mem_append_left _ (List.mem_of_getElem? (i := 225) (by decide +kernel))), by decide +kernel⟩
theorem tb_226 : Cond.code ⟨"TurnCounts$Turns", "withThing", "(IIII)I"⟩ prog_6_method_11_code 6 (Option.some FieldType.int) ∈ tg := List.mem_filter.mpr ⟨List.mem_append_right _ (List.mem_append_left _ (List.mem_of_getElem? (i := 226) (by decide +kernel))), by decide +kernel⟩
theorem tb_227 : Cond.methodLink "TurnCounts$Turns" 32 ⟨"TurnCounts$Turns", "withGoal", "(III)I"⟩ ∈ tg := List.mem_filter.mpr ⟨List.mem_append_right _ (List.mem_append_left _ (List.mem_of_getElem? (i := 227) (by decide +kernel))), by decide +kernel⟩
theorem tb_228 : Cond.static ⟨"TurnCounts$Turns", "withGoal", "(III)I"⟩ ∈ tg := List.mem_filter.mpr ⟨List.mem_append_right _ (List.mem_append_left _ (List.mem_of_getElem? (i := 228) (by decide +kernel))), by decide +kernel⟩
theorem tb_229 : Cond.code ⟨"TurnCounts$Turns", "withGoal", "(III)I"⟩ prog_6_method_3_code 4 (Option.some FieldType.int) ∈ tg := List.mem_filter.mpr ⟨List.mem_append_right _ (List.mem_append_left _ (List.mem_of_getElem? (i := 229) (by decide +kernel))), by decide +kernel⟩
theorem tb_230 : Cond.methodLink "TurnCounts$Group" 60 ⟨"TurnCounts$Group", "widen", "(I)V"⟩ ∈ tg := List.mem_filter.mpr ⟨List.mem_append_right _ (List.mem_append_left _ (List.mem_of_getElem? (i := 230) (by decide +kernel))), by decide +kernel⟩
theorem tb_231 : Cond.instanceMethod ⟨"TurnCounts$Group", "widen", "(I)V"⟩ ∈ tg := List.mem_filter.mpr ⟨List.mem_append_right _ (List.mem_append_left _ (List.mem_of_getElem? (i := 231) (by decide +kernel))), by decide +kernel⟩
theorem tb_232 : Cond.selects "TurnCounts$Group" ⟨"TurnCounts$Group", "widen", "(I)V"⟩ ⟨"TurnCounts$Group", "widen", "(I)V"⟩ ∈ tg := List.mem_filter.mpr ⟨List.mem_append_right _ (List.mem_append_left _ (List.mem_of_getElem? (i := 232) (by decide +kernel))), by decide +kernel⟩
theorem tb_233 : Cond.code ⟨"TurnCounts$Group", "widen", "(I)V"⟩ prog_2_method_8_code 6 (Option.none : Option FieldType) ∈ tg := List.mem_filter.mpr ⟨List.mem_append_right _ (List.mem_append_left _ (List.mem_of_getElem? (i := 233) (by decide +kernel))), by decide +kernel⟩
theorem tb_234 : Cond.methodLink "TurnCounts$Group" 66 ⟨"TurnCounts$Group", "has", "(I)Z"⟩ ∈ tg := List.mem_filter.mpr ⟨List.mem_append_right _ (List.mem_append_left _ (List.mem_of_getElem? (i := 234) (by decide +kernel))), by decide +kernel⟩
theorem tb_235 : Cond.instanceMethod ⟨"TurnCounts$Group", "has", "(I)Z"⟩ ∈ tg := List.mem_filter.mpr ⟨List.mem_append_right _ (List.mem_append_left _ (List.mem_of_getElem? (i := 235) (by decide +kernel))), by decide +kernel⟩
theorem tb_236 : Cond.selects "TurnCounts$Group" ⟨"TurnCounts$Group", "has", "(I)Z"⟩ ⟨"TurnCounts$Group", "has", "(I)Z"⟩ ∈ tg := List.mem_filter.mpr ⟨List.mem_append_right _ (List.mem_append_left _ (List.mem_of_getElem? (i := 236) (by decide +kernel))), by decide +kernel⟩
theorem tb_237 : Cond.code ⟨"TurnCounts$Group", "has", "(I)Z"⟩ prog_2_method_4_code 3 (Option.some FieldType.boolean) ∈ tg := List.mem_filter.mpr ⟨List.mem_append_right _ (List.mem_append_left _ (List.mem_of_getElem? (i := 237) (by decide +kernel))), by decide +kernel⟩
theorem tb_238 : Cond.methodLink "TurnCounts$Group" 69 ⟨"TurnCounts$Group", "addCopy", "(II)V"⟩ ∈ tg := List.mem_filter.mpr ⟨List.mem_append_right _ (List.mem_append_left _ (List.mem_of_getElem? (i := 238) (by decide +kernel))), by decide +kernel⟩
theorem tb_240 : Cond.instanceMethod ⟨"TurnCounts$Group", "addCopy", "(II)V"⟩ ∈ tg := List.mem_filter.mpr ⟨List.mem_append_right _ (List.mem_append_right _ (List.mem_append_left _ (List.mem_of_getElem? (i := 0) (by decide +kernel)))), by decide +kernel⟩
theorem tb_241 : Cond.code ⟨"TurnCounts$Group", "addCopy", "(II)V"⟩ prog_2_method_9_code 4 (Option.none : Option FieldType) ∈ tg := List.mem_filter.mpr ⟨List.mem_append_right _ (List.mem_append_right _ (List.mem_append_left _ (List.mem_of_getElem? (i := 1) (by decide +kernel)))), by decide +kernel⟩
theorem tb_242 : Cond.methodLink "TurnCounts$Group" 73 ⟨"TurnCounts$Turns", "oneThenOther", "(II)I"⟩ ∈ tg := List.mem_filter.mpr ⟨List.mem_append_right _ (List.mem_append_right _ (List.mem_append_left _ (List.mem_of_getElem? (i := 2) (by decide +kernel)))), by decide +kernel⟩
theorem tb_243 : Cond.static ⟨"TurnCounts$Turns", "oneThenOther", "(II)I"⟩ ∈ tg := List.mem_filter.mpr ⟨List.mem_append_right _ (List.mem_append_right _ (List.mem_append_left _ (List.mem_of_getElem? (i := 3) (by decide +kernel)))), by decide +kernel⟩
theorem tb_244 : Cond.code ⟨"TurnCounts$Turns", "oneThenOther", "(II)I"⟩ prog_6_method_4_code 4 (Option.some FieldType.int) ∈ tg := List.mem_filter.mpr ⟨List.mem_append_right _ (List.mem_append_right _ (List.mem_append_left _ (List.mem_of_getElem? (i := 4) (by decide +kernel)))), by decide +kernel⟩
theorem tb_245 : Cond.methodLink "TurnCounts$Group" 63 ⟨"TurnCounts$Turns", "flipTurn", "(III)I"⟩ ∈ tg := List.mem_filter.mpr ⟨List.mem_append_right _ (List.mem_append_right _ (List.mem_append_left _ (List.mem_of_getElem? (i := 5) (by decide +kernel)))), by decide +kernel⟩
theorem tb_246 : Cond.static ⟨"TurnCounts$Turns", "flipTurn", "(III)I"⟩ ∈ tg := List.mem_filter.mpr ⟨List.mem_append_right _ (List.mem_append_right _ (List.mem_append_left _ (List.mem_of_getElem? (i := 6) (by decide +kernel)))), by decide +kernel⟩
theorem tb_247 : Cond.code ⟨"TurnCounts$Turns", "flipTurn", "(III)I"⟩ prog_6_method_10_code 5 (Option.some FieldType.int) ∈ tg := List.mem_filter.mpr ⟨List.mem_append_right _ (List.mem_append_right _ (List.mem_append_left _ (List.mem_of_getElem? (i := 7) (by decide +kernel)))), by decide +kernel⟩
theorem tb_248 : Cond.methodLink "TurnCountsLaw" 23 ⟨"TurnCounts", "blocks", "(III)I"⟩ ∈ tg := List.mem_filter.mpr ⟨List.mem_append_right _ (List.mem_append_right _ (List.mem_append_left _ (List.mem_of_getElem? (i := 8) (by decide +kernel)))), by decide +kernel⟩
theorem tb_249 : Cond.instanceMethod ⟨"TurnCounts", "blocks", "(III)I"⟩ ∈ tg := List.mem_filter.mpr ⟨List.mem_append_right _ (List.mem_append_right _ (List.mem_append_left _ (List.mem_of_getElem? (i := 9) (by decide +kernel)))), by decide +kernel⟩
theorem tb_250 : Cond.selects "TurnCounts" ⟨"TurnCounts", "blocks", "(III)I"⟩ ⟨"TurnCounts", "blocks", "(III)I"⟩ ∈ tg := List.mem_filter.mpr ⟨List.mem_append_right _ (List.mem_append_right _ (List.mem_append_left _ (List.mem_of_getElem? (i := 10) (by decide +kernel)))), by decide +kernel⟩
theorem tb_251 : Cond.code ⟨"TurnCounts", "blocks", "(III)I"⟩ prog_1_method_4_code 6 (Option.some FieldType.int) ∈ tg := List.mem_filter.mpr ⟨List.mem_append_right _ (List.mem_append_right _ (List.mem_append_left _ (List.mem_of_getElem? (i := 11) (by decide +kernel)))), by decide +kernel⟩
theorem tb_252 : Cond.methodLink "TurnCountsLaw" 27 ⟨"TurnCounts", "join", "()I"⟩ ∈ tg := List.mem_filter.mpr ⟨List.mem_append_right _ (List.mem_append_right _ (List.mem_append_left _ (List.mem_of_getElem? (i := 12) (by decide +kernel)))), by decide +kernel⟩
theorem tb_253 : Cond.instanceMethod ⟨"TurnCounts", "join", "()I"⟩ ∈ tg := List.mem_filter.mpr ⟨List.mem_append_right _ (List.mem_append_right _ (List.mem_append_left _ (List.mem_of_getElem? (i := 13) (by decide +kernel)))), by decide +kernel⟩
theorem tb_254 : Cond.selects "TurnCounts" ⟨"TurnCounts", "join", "()I"⟩ ⟨"TurnCounts", "join", "()I"⟩ ∈ tg := List.mem_filter.mpr ⟨List.mem_append_right _ (List.mem_append_right _ (List.mem_append_left _ (List.mem_of_getElem? (i := 14) (by decide +kernel)))), by decide +kernel⟩
theorem tb_255 : Cond.code ⟨"TurnCounts", "join", "()I"⟩ prog_1_method_5_code 2 (Option.some FieldType.int) ∈ tg := List.mem_filter.mpr ⟨List.mem_append_right _ (List.mem_append_right _ (List.mem_append_left _ (List.mem_of_getElem? (i := 15) (by decide +kernel)))), by decide +kernel⟩
theorem tb_256 : Cond.methodLink "TurnCounts" 75 ⟨"TurnCounts$Pad", "toldTurn", "(I)I"⟩ ∈ tg := List.mem_filter.mpr ⟨List.mem_append_right _ (List.mem_append_right _ (List.mem_append_left _ (List.mem_of_getElem? (i := 16) (by decide +kernel)))), by decide +kernel⟩
theorem tb_257 : Cond.instanceMethod ⟨"TurnCounts$Pad", "toldTurn", "(I)I"⟩ ∈ tg := List.mem_filter.mpr ⟨List.mem_append_right _ (List.mem_append_right _ (List.mem_append_left _ (List.mem_of_getElem? (i := 17) (by decide +kernel)))), by decide +kernel⟩
theorem tb_258 : Cond.selects "TurnCounts$Pad" ⟨"TurnCounts$Pad", "toldTurn", "(I)I"⟩ ⟨"TurnCounts$Pad", "toldTurn", "(I)I"⟩ ∈ tg := List.mem_filter.mpr ⟨List.mem_append_right _ (List.mem_append_right _ (List.mem_append_left _ (List.mem_of_getElem? (i := 18) (by decide +kernel)))), by decide +kernel⟩
theorem tb_259 : Cond.code ⟨"TurnCounts$Pad", "toldTurn", "(I)I"⟩ prog_3_method_2_code 6 (Option.some FieldType.int) ∈ tg := List.mem_filter.mpr ⟨List.mem_append_right _ (List.mem_append_right _ (List.mem_append_left _ (List.mem_of_getElem? (i := 19) (by decide +kernel)))), by decide +kernel⟩
theorem tb_260 : Cond.constant "TurnCounts$Pad" 19 (42798 : Int32) ∈ tg := List.mem_filter.mpr ⟨List.mem_append_right _ (List.mem_append_right _ (List.mem_append_left _ (List.mem_of_getElem? (i := 20) (by decide +kernel)))), by decide +kernel⟩
theorem tb_261 : Cond.methodLink "TurnCounts$Pad" 20 ⟨"TurnCounts$Turns", "withGoal", "(III)I"⟩ ∈ tg := List.mem_filter.mpr ⟨List.mem_append_right _ (List.mem_append_right _ (List.mem_append_left _ (List.mem_of_getElem? (i := 21) (by decide +kernel)))), by decide +kernel⟩
theorem tb_262 : Cond.methodLink "TurnCounts" 82 ⟨"TurnCounts$Group", "has", "(I)Z"⟩ ∈ tg := List.mem_filter.mpr ⟨List.mem_append_right _ (List.mem_append_right _ (List.mem_append_left _ (List.mem_of_getElem? (i := 22) (by decide +kernel)))), by decide +kernel⟩
theorem tb_263 : Cond.methodLink "TurnCounts" 85 ⟨"TurnCounts$Group", "widen", "(I)V"⟩ ∈ tg := List.mem_filter.mpr ⟨List.mem_append_right _ (List.mem_append_right _ (List.mem_append_left _ (List.mem_of_getElem? (i := 23) (by decide +kernel)))), by decide +kernel⟩
theorem tb_264 : Cond.methodLink "TurnCountsLaw" 32 ⟨"TurnCounts", "say", "(I)I"⟩ ∈ tg := List.mem_filter.mpr ⟨List.mem_append_right _ (List.mem_append_right _ (List.mem_append_left _ (List.mem_of_getElem? (i := 24) (by decide +kernel)))), by decide +kernel⟩
theorem tb_265 : Cond.instanceMethod ⟨"TurnCounts", "say", "(I)I"⟩ ∈ tg := List.mem_filter.mpr ⟨List.mem_append_right _ (List.mem_append_right _ (List.mem_append_left _ (List.mem_of_getElem? (i := 25) (by decide +kernel)))), by decide +kernel⟩
theorem tb_266 : Cond.selects "TurnCounts" ⟨"TurnCounts", "say", "(I)I"⟩ ⟨"TurnCounts", "say", "(I)I"⟩ ∈ tg := List.mem_filter.mpr ⟨List.mem_append_right _ (List.mem_append_right _ (List.mem_append_left _ (List.mem_of_getElem? (i := 26) (by decide +kernel)))), by decide +kernel⟩
theorem tb_267 : Cond.code ⟨"TurnCounts", "say", "(I)I"⟩ prog_1_method_6_code 2 (Option.some FieldType.int) ∈ tg := List.mem_filter.mpr ⟨List.mem_append_right _ (List.mem_append_right _ (List.mem_append_left _ (List.mem_of_getElem? (i := 27) (by decide +kernel)))), by decide +kernel⟩
theorem tb_268 : Cond.methodLink "TurnCountsLaw" 36 ⟨"TurnCounts", "wipe", "()I"⟩ ∈ tg := List.mem_filter.mpr ⟨List.mem_append_right _ (List.mem_append_right _ (List.mem_append_left _ (List.mem_of_getElem? (i := 28) (by decide +kernel)))), by decide +kernel⟩
theorem tb_269 : Cond.instanceMethod ⟨"TurnCounts", "wipe", "()I"⟩ ∈ tg := List.mem_filter.mpr ⟨List.mem_append_right _ (List.mem_append_right _ (List.mem_append_left _ (List.mem_of_getElem? (i := 29) (by decide +kernel)))), by decide +kernel⟩
theorem tb_270 : Cond.selects "TurnCounts" ⟨"TurnCounts", "wipe", "()I"⟩ ⟨"TurnCounts", "wipe", "()I"⟩ ∈ tg := List.mem_filter.mpr ⟨List.mem_append_right _ (List.mem_append_right _ (List.mem_append_left _ (List.mem_of_getElem? (i := 30) (by decide +kernel)))), by decide +kernel⟩
theorem tb_271 : Cond.code ⟨"TurnCounts", "wipe", "()I"⟩ prog_1_method_7_code 2 (Option.some FieldType.int) ∈ tg := List.mem_filter.mpr ⟨List.mem_append_right _ (List.mem_append_right _ (List.mem_append_left _ (List.mem_of_getElem? (i := 31) (by decide +kernel)))), by decide +kernel⟩
theorem tb_272 : Cond.methodLink "TurnCountsLaw" 40 ⟨"TurnCounts", "turn", "(I)I"⟩ ∈ tg := List.mem_filter.mpr ⟨List.mem_append_right _ (List.mem_append_right _ (List.mem_append_left _ (List.mem_of_getElem? (i := 32) (by decide +kernel)))), by decide +kernel⟩
theorem tb_273 : Cond.instanceMethod ⟨"TurnCounts", "turn", "(I)I"⟩ ∈ tg := List.mem_filter.mpr ⟨List.mem_append_right _ (List.mem_append_right _ (List.mem_append_left _ (List.mem_of_getElem? (i := 33) (by decide +kernel)))), by decide +kernel⟩
theorem tb_274 : Cond.selects "TurnCounts" ⟨"TurnCounts", "turn", "(I)I"⟩ ⟨"TurnCounts", "turn", "(I)I"⟩ ∈ tg := List.mem_filter.mpr ⟨List.mem_append_right _ (List.mem_append_right _ (List.mem_append_left _ (List.mem_of_getElem? (i := 34) (by decide +kernel)))), by decide +kernel⟩
theorem tb_275 : Cond.code ⟨"TurnCounts", "turn", "(I)I"⟩ prog_1_method_8_code 3 (Option.some FieldType.int) ∈ tg := List.mem_filter.mpr ⟨List.mem_append_right _ (List.mem_append_right _ (List.mem_append_left _ (List.mem_of_getElem? (i := 35) (by decide +kernel)))), by decide +kernel⟩
theorem tb_276 : Cond.methodLink "TurnCounts" 93 ⟨"TurnCounts$Turns", "typeOf", "(II)I"⟩ ∈ tg := List.mem_filter.mpr ⟨List.mem_append_right _ (List.mem_append_right _ (List.mem_append_left _ (List.mem_of_getElem? (i := 36) (by decide +kernel)))), by decide +kernel⟩
theorem tb_277 : Cond.static ⟨"TurnCounts$Turns", "typeOf", "(II)I"⟩ ∈ tg := List.mem_filter.mpr ⟨List.mem_append_right _ (List.mem_append_right _ (List.mem_append_left _ (List.mem_of_getElem? (i := 37) (by decide +kernel)))), by decide +kernel⟩
theorem tb_278 : Cond.code ⟨"TurnCounts$Turns", "typeOf", "(II)I"⟩ prog_6_method_6_code 7 (Option.some FieldType.int) ∈ tg := List.mem_filter.mpr ⟨List.mem_append_right _ (List.mem_append_right _ (List.mem_append_left _ (List.mem_of_getElem? (i := 38) (by decide +kernel)))), by decide +kernel⟩
theorem tb_279 : Cond.methodLink "TurnCounts$Turns" 21 ⟨"TurnCounts$Turns", "tallyCycles", "(II)I"⟩ ∈ tg := List.mem_filter.mpr ⟨List.mem_append_right _ (List.mem_append_right _ (List.mem_append_left _ (List.mem_of_getElem? (i := 39) (by decide +kernel)))), by decide +kernel⟩
theorem tb_280 : Cond.static ⟨"TurnCounts$Turns", "tallyCycles", "(II)I"⟩ ∈ tg := List.mem_filter.mpr ⟨List.mem_append_right _ (List.mem_append_right _ (List.mem_append_left _ (List.mem_of_getElem? (i := 40) (by decide +kernel)))), by decide +kernel⟩
theorem tb_281 : Cond.code ⟨"TurnCounts$Turns", "tallyCycles", "(II)I"⟩ prog_6_method_7_code 7 (Option.some FieldType.int) ∈ tg := List.mem_filter.mpr ⟨List.mem_append_right _ (List.mem_append_right _ (List.mem_append_left _ (List.mem_of_getElem? (i := 41) (by decide +kernel)))), by decide +kernel⟩
theorem tb_282 : Cond.methodLink "TurnCounts" 99 ⟨"TurnCounts$Turns", "timesTillStill", "(I)I"⟩ ∈ tg := List.mem_filter.mpr ⟨List.mem_append_right _ (List.mem_append_right _ (List.mem_append_left _ (List.mem_of_getElem? (i := 42) (by decide +kernel)))), by decide +kernel⟩
theorem tb_283 : Cond.static ⟨"TurnCounts$Turns", "timesTillStill", "(I)I"⟩ ∈ tg := List.mem_filter.mpr ⟨List.mem_append_right _ (List.mem_append_right _ (List.mem_append_left _ (List.mem_of_getElem? (i := 43) (by decide +kernel)))), by decide +kernel⟩
theorem tb_284 : Cond.code ⟨"TurnCounts$Turns", "timesTillStill", "(I)I"⟩ prog_6_method_8_code 3 (Option.some FieldType.int) ∈ tg := List.mem_filter.mpr ⟨List.mem_append_right _ (List.mem_append_right _ (List.mem_append_left _ (List.mem_of_getElem? (i := 44) (by decide +kernel)))), by decide +kernel⟩
theorem tb_285 : Cond.methodLink "TurnCounts$Turns" 25 ⟨"TurnCounts$Turns", "oneThenOther", "(II)I"⟩ ∈ tg := List.mem_filter.mpr ⟨List.mem_append_right _ (List.mem_append_right _ (List.mem_append_left _ (List.mem_of_getElem? (i := 45) (by decide +kernel)))), by decide +kernel⟩
theorem tb_286 : Cond.methodLink "TurnCountsLaw" 44 ⟨"TurnCounts", "type", "(II)I"⟩ ∈ tg := List.mem_filter.mpr ⟨List.mem_append_right _ (List.mem_append_right _ (List.mem_append_left _ (List.mem_of_getElem? (i := 46) (by decide +kernel)))), by decide +kernel⟩
theorem tb_287 : Cond.instanceMethod ⟨"TurnCounts", "type", "(II)I"⟩ ∈ tg := List.mem_filter.mpr ⟨List.mem_append_right _ (List.mem_append_right _ (List.mem_append_left _ (List.mem_of_getElem? (i := 47) (by decide +kernel)))), by decide +kernel⟩
theorem tb_288 : Cond.selects "TurnCounts" ⟨"TurnCounts", "type", "(II)I"⟩ ⟨"TurnCounts", "type", "(II)I"⟩ ∈ tg := List.mem_filter.mpr ⟨List.mem_append_right _ (List.mem_append_right _ (List.mem_append_left _ (List.mem_of_getElem? (i := 48) (by decide +kernel)))), by decide +kernel⟩
theorem tb_289 : Cond.code ⟨"TurnCounts", "type", "(II)I"⟩ prog_1_method_9_code 3 (Option.some FieldType.int) ∈ tg := List.mem_filter.mpr ⟨List.mem_append_right _ (List.mem_append_right _ (List.mem_append_left _ (List.mem_of_getElem? (i := 49) (by decide +kernel)))), by decide +kernel⟩
theorem tb_290 : Cond.methodLink "TurnCounts" 102 ⟨"TurnCounts$TypeTable", "bringUp", "(LTurnCounts$Setting;)V"⟩ ∈ tg := List.mem_filter.mpr ⟨List.mem_append_right _ (List.mem_append_right _ (List.mem_append_left _ (List.mem_of_getElem? (i := 50) (by decide +kernel)))), by decide +kernel⟩
theorem tb_291 : Cond.instanceMethod ⟨"TurnCounts$TypeTable", "bringUp", "(LTurnCounts$Setting;)V"⟩ ∈ tg := List.mem_filter.mpr ⟨List.mem_append_right _ (List.mem_append_right _ (List.mem_append_left _ (List.mem_of_getElem? (i := 51) (by decide +kernel)))), by decide +kernel⟩
theorem tb_292 : Cond.selects "TurnCounts$TypeTable" ⟨"TurnCounts$TypeTable", "bringUp", "(LTurnCounts$Setting;)V"⟩ ⟨"TurnCounts$TypeTable", "bringUp", "(LTurnCounts$Setting;)V"⟩ ∈ tg := List.mem_filter.mpr ⟨List.mem_append_right _ (List.mem_append_right _ (List.mem_append_left _ (List.mem_of_getElem? (i := 52) (by decide +kernel)))), by decide +kernel⟩
theorem tb_293 : Cond.code ⟨"TurnCounts$TypeTable", "bringUp", "(LTurnCounts$Setting;)V"⟩ prog_7_method_2_code 3 (Option.none : Option FieldType) ∈ tg := List.mem_filter.mpr ⟨List.mem_append_right _ (List.mem_append_right _ (List.mem_append_left _ (List.mem_of_getElem? (i := 53) (by decide +kernel)))), by decide +kernel⟩
theorem tb_294 : Cond.methodLink "TurnCounts$TypeTable" 41 ⟨"TurnCounts$Turns", "typeOf", "(II)I"⟩ ∈ tg := List.mem_filter.mpr ⟨List.mem_append_right _ (List.mem_append_right _ (List.mem_append_left _ (List.mem_of_getElem? (i := 54) (by decide +kernel)))), by decide +kernel⟩
theorem tb_295 : Cond.methodLink "TurnCounts$TypeTable" 47 ⟨"TurnCounts$TypeTable", "add", "(I)V"⟩ ∈ tg := List.mem_filter.mpr ⟨List.mem_append_right _ (List.mem_append_right _ (List.mem_append_left _ (List.mem_of_getElem? (i := 55) (by decide +kernel)))), by decide +kernel⟩
theorem tb_297 : Cond.instanceMethod ⟨"TurnCounts$TypeTable", "add", "(I)V"⟩ ∈ tg := List.mem_filter.mpr ⟨List.mem_append_right _ (List.mem_append_right _ (List.mem_append_left _ (List.mem_of_getElem? (i := 57) (by decide +kernel)))), by decide +kernel⟩
theorem tb_298 : Cond.code ⟨"TurnCounts$TypeTable", "add", "(I)V"⟩ prog_7_method_3_code 3 (Option.none : Option FieldType) ∈ tg := List.mem_filter.mpr ⟨List.mem_append_right _ (List.mem_append_right _ (List.mem_append_left _ (List.mem_of_getElem? (i := 58) (by decide +kernel)))), by decide +kernel⟩
theorem tb_299 : Cond.methodLink "TurnCounts$TypeTable" 51 ⟨"TurnCounts$TypeTable", "insert", "(II)V"⟩ ∈ tg := List.mem_filter.mpr ⟨List.mem_append_right _ (List.mem_append_right _ (List.mem_append_left _ (List.mem_of_getElem? (i := 59) (by decide +kernel)))), by decide +kernel⟩
theorem tb_301 : Cond.instanceMethod ⟨"TurnCounts$TypeTable", "insert", "(II)V"⟩ ∈ tg := List.mem_filter.mpr ⟨List.mem_append_right _ (List.mem_append_right _ (List.mem_append_left _ (List.mem_of_getElem? (i := 61) (by decide +kernel)))), by decide +kernel⟩
theorem tb_302 : Cond.code ⟨"TurnCounts$TypeTable", "insert", "(II)V"⟩ prog_7_method_4_code 4 (Option.none : Option FieldType) ∈ tg := List.mem_filter.mpr ⟨List.mem_append_right _ (List.mem_append_right _ (List.mem_append_left _ (List.mem_of_getElem? (i := 62) (by decide +kernel)))), by decide +kernel⟩
theorem tb_303 : Cond.methodLink "TurnCountsLaw" 49 ⟨"TurnCounts", "orbit", "(II)I"⟩ ∈ tg := List.mem_filter.mpr ⟨List.mem_append_right _ (List.mem_append_right _ (List.mem_append_left _ (List.mem_of_getElem? (i := 63) (by decide +kernel)))), by decide +kernel⟩
theorem tb_304 : Cond.instanceMethod ⟨"TurnCounts", "orbit", "(II)I"⟩ ∈ tg := List.mem_filter.mpr ⟨List.mem_append_right _ (List.mem_append_right _ (List.mem_append_left _ (List.mem_of_getElem? (i := 64) (by decide +kernel)))), by decide +kernel⟩
theorem tb_305 : Cond.selects "TurnCounts" ⟨"TurnCounts", "orbit", "(II)I"⟩ ⟨"TurnCounts", "orbit", "(II)I"⟩ ∈ tg := List.mem_filter.mpr ⟨List.mem_append_right _ (List.mem_append_right _ (List.mem_append_left _ (List.mem_of_getElem? (i := 65) (by decide +kernel)))), by decide +kernel⟩
theorem tb_306 : Cond.code ⟨"TurnCounts", "orbit", "(II)I"⟩ prog_1_method_10_code 3 (Option.some FieldType.int) ∈ tg := List.mem_filter.mpr ⟨List.mem_append_right _ (List.mem_append_right _ (List.mem_append_left _ (List.mem_of_getElem? (i := 66) (by decide +kernel)))), by decide +kernel⟩
theorem tb_307 : Cond.methodLink "TurnCounts" 115 ⟨"TurnCounts$Group", "reachFrom", "(I)I"⟩ ∈ tg := List.mem_filter.mpr ⟨List.mem_append_right _ (List.mem_append_right _ (List.mem_append_left _ (List.mem_of_getElem? (i := 67) (by decide +kernel)))), by decide +kernel⟩
theorem tb_308 : Cond.instanceMethod ⟨"TurnCounts$Group", "reachFrom", "(I)I"⟩ ∈ tg := List.mem_filter.mpr ⟨List.mem_append_right _ (List.mem_append_right _ (List.mem_append_left _ (List.mem_of_getElem? (i := 68) (by decide +kernel)))), by decide +kernel⟩
theorem tb_309 : Cond.selects "TurnCounts$Group" ⟨"TurnCounts$Group", "reachFrom", "(I)I"⟩ ⟨"TurnCounts$Group", "reachFrom", "(I)I"⟩ ∈ tg := List.mem_filter.mpr ⟨List.mem_append_right _ (List.mem_append_right _ (List.mem_append_left _ (List.mem_of_getElem? (i := 69) (by decide +kernel)))), by decide +kernel⟩
theorem tb_310 : Cond.code ⟨"TurnCounts$Group", "reachFrom", "(I)I"⟩ prog_2_method_10_code 4 (Option.some FieldType.int) ∈ tg := List.mem_filter.mpr ⟨List.mem_append_right _ (List.mem_append_right _ (List.mem_append_left _ (List.mem_of_getElem? (i := 70) (by decide +kernel)))), by decide +kernel⟩
theorem tb_311 : Cond.methodLink "TurnCounts$Group" 77 ⟨"TurnCounts$Turns", "goal", "(II)I"⟩ ∈ tg := List.mem_filter.mpr ⟨List.mem_append_right _ (List.mem_append_right _ (List.mem_append_left _ (List.mem_of_getElem? (i := 71) (by decide +kernel)))), by decide +kernel⟩
theorem tb_312 : Cond.methodLink "TurnCounts$Group" 80 ⟨"java/lang/Integer", "bitCount", "(I)I"⟩ ∈ tg := List.mem_filter.mpr ⟨List.mem_append_right _ (List.mem_append_right _ (List.mem_append_left _ (List.mem_of_getElem? (i := 72) (by decide +kernel)))), by decide +kernel⟩
theorem tb_313 : Cond.methodLink "TurnCounts" 118 ⟨"TurnCounts$Group", "holding", "(I)I"⟩ ∈ tg := List.mem_filter.mpr ⟨List.mem_append_right _ (List.mem_append_right _ (List.mem_append_left _ (List.mem_of_getElem? (i := 73) (by decide +kernel)))), by decide +kernel⟩
theorem tb_314 : Cond.instanceMethod ⟨"TurnCounts$Group", "holding", "(I)I"⟩ ∈ tg := List.mem_filter.mpr ⟨List.mem_append_right _ (List.mem_append_right _ (List.mem_append_left _ (List.mem_of_getElem? (i := 74) (by decide +kernel)))), by decide +kernel⟩
theorem tb_315 : Cond.selects "TurnCounts$Group" ⟨"TurnCounts$Group", "holding", "(I)I"⟩ ⟨"TurnCounts$Group", "holding", "(I)I"⟩ ∈ tg := List.mem_filter.mpr ⟨List.mem_append_right _ (List.mem_append_right _ (List.mem_append_left _ (List.mem_of_getElem? (i := 75) (by decide +kernel)))), by decide +kernel⟩
theorem tb_316 : Cond.code ⟨"TurnCounts$Group", "holding", "(I)I"⟩ prog_2_method_11_code 4 (Option.some FieldType.int) ∈ tg := List.mem_filter.mpr ⟨List.mem_append_right _ (List.mem_append_right _ (List.mem_append_left _ (List.mem_of_getElem? (i := 76) (by decide +kernel)))), by decide +kernel⟩
theorem tb_317 : Cond.methodLink "TurnCountsLaw" 53 ⟨"TurnCounts", "sorts", "(I)I"⟩ ∈ tg := List.mem_filter.mpr ⟨List.mem_append_right _ (List.mem_append_right _ (List.mem_append_left _ (List.mem_of_getElem? (i := 77) (by decide +kernel)))), by decide +kernel⟩
theorem tb_318 : Cond.instanceMethod ⟨"TurnCounts", "sorts", "(I)I"⟩ ∈ tg := List.mem_filter.mpr ⟨List.mem_append_right _ (List.mem_append_right _ (List.mem_append_left _ (List.mem_of_getElem? (i := 78) (by decide +kernel)))), by decide +kernel⟩
theorem tb_319 : Cond.selects "TurnCounts" ⟨"TurnCounts", "sorts", "(I)I"⟩ ⟨"TurnCounts", "sorts", "(I)I"⟩ ∈ tg := List.mem_filter.mpr ⟨List.mem_append_right _ (List.mem_append_right _ (List.mem_append_left _ (List.mem_of_getElem? (i := 79) (by decide +kernel)))), by decide +kernel⟩
theorem tb_320 : Cond.code ⟨"TurnCounts", "sorts", "(I)I"⟩ prog_1_method_11_code 3 (Option.some FieldType.int) ∈ tg := List.mem_filter.mpr ⟨List.mem_append_right _ (List.mem_append_right _ (List.mem_append_left _ (List.mem_of_getElem? (i := 80) (by decide +kernel)))), by decide +kernel⟩
theorem tb_321 : Cond.methodLink "TurnCountsLaw" 57 ⟨"TurnCounts", "weight", "(II)I"⟩ ∈ tg := List.mem_filter.mpr ⟨List.mem_append_right _ (List.mem_append_right _ (List.mem_append_left _ (List.mem_of_getElem? (i := 81) (by decide +kernel)))), by decide +kernel⟩
theorem tb_322 : Cond.instanceMethod ⟨"TurnCounts", "weight", "(II)I"⟩ ∈ tg := List.mem_filter.mpr ⟨List.mem_append_right _ (List.mem_append_right _ (List.mem_append_left _ (List.mem_of_getElem? (i := 82) (by decide +kernel)))), by decide +kernel⟩
theorem tb_323 : Cond.selects "TurnCounts" ⟨"TurnCounts", "weight", "(II)I"⟩ ⟨"TurnCounts", "weight", "(II)I"⟩ ∈ tg := List.mem_filter.mpr ⟨List.mem_append_right _ (List.mem_append_right _ (List.mem_append_left _ (List.mem_of_getElem? (i := 83) (by decide +kernel)))), by decide +kernel⟩
theorem tb_324 : Cond.code ⟨"TurnCounts", "weight", "(II)I"⟩ prog_1_method_12_code 4 (Option.some FieldType.int) ∈ tg := List.mem_filter.mpr ⟨List.mem_append_right _ (List.mem_append_right _ (List.mem_append_left _ (List.mem_of_getElem? (i := 84) (by decide +kernel)))), by decide +kernel⟩
theorem tb_325 : Cond.methodLink "TurnCountsLaw" 61 ⟨"TurnCounts", "patterns", "(I)I"⟩ ∈ tg := List.mem_filter.mpr ⟨List.mem_append_right _ (List.mem_append_right _ (List.mem_append_left _ (List.mem_of_getElem? (i := 85) (by decide +kernel)))), by decide +kernel⟩
theorem tb_326 : Cond.instanceMethod ⟨"TurnCounts", "patterns", "(I)I"⟩ ∈ tg := List.mem_filter.mpr ⟨List.mem_append_right _ (List.mem_append_right _ (List.mem_append_left _ (List.mem_of_getElem? (i := 86) (by decide +kernel)))), by decide +kernel⟩
theorem tb_327 : Cond.selects "TurnCounts" ⟨"TurnCounts", "patterns", "(I)I"⟩ ⟨"TurnCounts", "patterns", "(I)I"⟩ ∈ tg := List.mem_filter.mpr ⟨List.mem_append_right _ (List.mem_append_right _ (List.mem_append_left _ (List.mem_of_getElem? (i := 87) (by decide +kernel)))), by decide +kernel⟩
theorem tb_328 : Cond.code ⟨"TurnCounts", "patterns", "(I)I"⟩ prog_1_method_13_code 2 (Option.some FieldType.int) ∈ tg := List.mem_filter.mpr ⟨List.mem_append_right _ (List.mem_append_right _ (List.mem_append_left _ (List.mem_of_getElem? (i := 88) (by decide +kernel)))), by decide +kernel⟩
theorem tb_329 : Cond.methodLink "TurnCounts" 131 ⟨"TurnCounts$PatternTable", "bringUp", "(LTurnCounts$Setting;)V"⟩ ∈ tg := List.mem_filter.mpr ⟨List.mem_append_right _ (List.mem_append_right _ (List.mem_append_left _ (List.mem_of_getElem? (i := 89) (by decide +kernel)))), by decide +kernel⟩
theorem tb_330 : Cond.instanceMethod ⟨"TurnCounts$PatternTable", "bringUp", "(LTurnCounts$Setting;)V"⟩ ∈ tg := List.mem_filter.mpr ⟨List.mem_append_right _ (List.mem_append_right _ (List.mem_append_left _ (List.mem_of_getElem? (i := 90) (by decide +kernel)))), by decide +kernel⟩
theorem tb_331 : Cond.selects "TurnCounts$PatternTable" ⟨"TurnCounts$PatternTable", "bringUp", "(LTurnCounts$Setting;)V"⟩ ⟨"TurnCounts$PatternTable", "bringUp", "(LTurnCounts$Setting;)V"⟩ ∈ tg := List.mem_filter.mpr ⟨List.mem_append_right _ (List.mem_append_right _ (List.mem_append_left _ (List.mem_of_getElem? (i := 91) (by decide +kernel)))), by decide +kernel⟩
theorem tb_332 : Cond.code ⟨"TurnCounts$PatternTable", "bringUp", "(LTurnCounts$Setting;)V"⟩ prog_4_method_2_code 4 (Option.none : Option FieldType) ∈ tg := List.mem_filter.mpr ⟨List.mem_append_right _ (List.mem_append_right _ (List.mem_append_left _ (List.mem_of_getElem? (i := 92) (by decide +kernel)))), by decide +kernel⟩
theorem tb_333 : Cond.methodLink "TurnCounts$PatternTable" 41 ⟨"TurnCounts$PatternTable", "setPlaces", "(LTurnCounts$Setting;)V"⟩ ∈ tg := List.mem_filter.mpr ⟨List.mem_append_right _ (List.mem_append_right _ (List.mem_append_left _ (List.mem_of_getElem? (i := 93) (by decide +kernel)))), by decide +kernel⟩
theorem tb_335 : Cond.instanceMethod ⟨"TurnCounts$PatternTable", "setPlaces", "(LTurnCounts$Setting;)V"⟩ ∈ tg := List.mem_filter.mpr ⟨List.mem_append_right _ (List.mem_append_right _ (List.mem_append_left _ (List.mem_of_getElem? (i := 95) (by decide +kernel)))), by decide +kernel⟩
theorem tb_336 : Cond.code ⟨"TurnCounts$PatternTable", "setPlaces", "(LTurnCounts$Setting;)V"⟩ prog_4_method_3_code 4 (Option.none : Option FieldType) ∈ tg := List.mem_filter.mpr ⟨List.mem_append_right _ (List.mem_append_right _ (List.mem_append_left _ (List.mem_of_getElem? (i := 96) (by decide +kernel)))), by decide +kernel⟩
theorem tb_337 : Cond.methodLink "TurnCounts$PatternTable" 50 ⟨"java/lang/Math", "min", "(II)I"⟩ ∈ tg := List.mem_filter.mpr ⟨List.mem_append_right _ (List.mem_append_right _ (List.mem_append_left _ (List.mem_of_getElem? (i := 97) (by decide +kernel)))), by decide +kernel⟩
theorem tb_338 : Cond.static ⟨"java/lang/Math", "min", "(II)I"⟩ ∈ tg := List.mem_filter.mpr ⟨List.mem_append_right _ (List.mem_append_right _ (List.mem_append_left _ (List.mem_of_getElem? (i := 98) (by decide +kernel)))), by decide +kernel⟩
theorem tb_339 : Cond.code ⟨"java/lang/Math", "min", "(II)I"⟩ prog_11_method_69_code 2 (Option.some FieldType.int) ∈ tg := List.mem_filter.mpr ⟨List.mem_append_right _ (List.mem_append_right _ (List.mem_append_left _ (List.mem_of_getElem? (i := 99) (by decide +kernel)))), by decide +kernel⟩
theorem tb_340 : Cond.methodLink "TurnCounts$PatternTable" 45 ⟨"TurnCounts$Setting", "colourings", "()I"⟩ ∈ tg := List.mem_filter.mpr ⟨List.mem_append_right _ (List.mem_append_right _ (List.mem_append_left _ (List.mem_of_getElem? (i := 100) (by decide +kernel)))), by decide +kernel⟩
theorem tb_341 : Cond.instanceMethod ⟨"TurnCounts$Setting", "colourings", "()I"⟩ ∈ tg := List.mem_filter.mpr ⟨List.mem_append_right _ (List.mem_append_right _ (List.mem_append_left _ (List.mem_of_getElem? (i := 101) (by decide +kernel)))), by decide +kernel⟩
theorem tb_342 : Cond.selects "TurnCounts$Setting" ⟨"TurnCounts$Setting", "colourings", "()I"⟩ ⟨"TurnCounts$Setting", "colourings", "()I"⟩ ∈ tg := List.mem_filter.mpr ⟨List.mem_append_right _ (List.mem_append_right _ (List.mem_append_left _ (List.mem_of_getElem? (i := 102) (by decide +kernel)))), by decide +kernel⟩
theorem tb_343 : Cond.code ⟨"TurnCounts$Setting", "colourings", "()I"⟩ prog_5_method_3_code 3 (Option.some FieldType.int) ∈ tg := List.mem_filter.mpr ⟨List.mem_append_right _ (List.mem_append_right _ (List.mem_append_left _ (List.mem_of_getElem? (i := 103) (by decide +kernel)))), by decide +kernel⟩
theorem tb_344 : Cond.methodLink "TurnCounts$PatternTable" 60 ⟨"TurnCounts$PatternTable", "gather", "(ILTurnCounts$Group;)V"⟩ ∈ tg := List.mem_filter.mpr ⟨List.mem_append_right _ (List.mem_append_right _ (List.mem_append_left _ (List.mem_of_getElem? (i := 104) (by decide +kernel)))), by decide +kernel⟩
theorem tb_346 : Cond.instanceMethod ⟨"TurnCounts$PatternTable", "gather", "(ILTurnCounts$Group;)V"⟩ ∈ tg := List.mem_filter.mpr ⟨List.mem_append_right _ (List.mem_append_right _ (List.mem_append_left _ (List.mem_of_getElem? (i := 106) (by decide +kernel)))), by decide +kernel⟩
theorem tb_347 : Cond.code ⟨"TurnCounts$PatternTable", "gather", "(ILTurnCounts$Group;)V"⟩ prog_4_method_4_code 6 (Option.none : Option FieldType) ∈ tg := List.mem_filter.mpr ⟨List.mem_append_right _ (List.mem_append_right _ (List.mem_append_left _ (List.mem_of_getElem? (i := 107) (by decide +kernel)))), by decide +kernel⟩
theorem tb_348 : Cond.methodLink "TurnCounts$PatternTable" 66 ⟨"TurnCounts$PatternTable", "put", "(I)V"⟩ ∈ tg := List.mem_filter.mpr ⟨List.mem_append_right _ (List.mem_append_right _ (List.mem_append_left _ (List.mem_of_getElem? (i := 108) (by decide +kernel)))), by decide +kernel⟩
theorem tb_350 : Cond.instanceMethod ⟨"TurnCounts$PatternTable", "put", "(I)V"⟩ ∈ tg := List.mem_filter.mpr ⟨List.mem_append_right _ (List.mem_append_right _ (List.mem_append_left _ (List.mem_of_getElem? (i := 110) (by decide +kernel)))), by decide +kernel⟩
theorem tb_351 : Cond.code ⟨"TurnCounts$PatternTable", "put", "(I)V"⟩ prog_4_method_5_code 2 (Option.none : Option FieldType) ∈ tg := List.mem_filter.mpr ⟨List.mem_append_right _ (List.mem_append_right _ (List.mem_append_left _ (List.mem_of_getElem? (i := 111) (by decide +kernel)))), by decide +kernel⟩
theorem tb_352 : Cond.methodLinkNest "TurnCounts$PatternTable" 81 ⟨"TurnCounts", "isWithin", "(III)Z"⟩ "TurnCounts" ∈ lw_tbl := List.mem_append_right _ (List.mem_append_right _ (List.mem_append_left _ (List.mem_of_getElem? (i := 112) (by decide +kernel))))
theorem tb_353 : Cond.methodLink "TurnCounts$PatternTable" 78 ⟨"TurnCounts$PatternTable", "turned", "(II)I"⟩ ∈ tg := List.mem_filter.mpr ⟨List.mem_append_right _ (List.mem_append_right _ (List.mem_append_left _ (List.mem_of_getElem? (i := 113) (by decide +kernel)))), by decide +kernel⟩
theorem tb_355 : Cond.instanceMethod ⟨"TurnCounts$PatternTable", "turned", "(II)I"⟩ ∈ tg := List.mem_filter.mpr ⟨List.mem_append_right _ (List.mem_append_right _ (List.mem_append_left _ (List.mem_of_getElem? (i := 115) (by decide +kernel)))), by decide +kernel⟩
theorem tb_356 : Cond.code ⟨"TurnCounts$PatternTable", "turned", "(II)I"⟩ prog_4_method_7_code 6 (Option.some FieldType.int) ∈ tg := List.mem_filter.mpr ⟨List.mem_append_right _ (List.mem_append_right _ (List.mem_append_left _ (List.mem_of_getElem? (i := 116) (by decide +kernel)))), by decide +kernel⟩
theorem tb_357 : Cond.methodLink "TurnCounts$PatternTable" 85 ⟨"TurnCounts$Turns", "goal", "(II)I"⟩ ∈ tg := List.mem_filter.mpr ⟨List.mem_append_right _ (List.mem_append_right _ (List.mem_append_left _ (List.mem_of_getElem? (i := 117) (by decide +kernel)))), by decide +kernel⟩
theorem tb_358 : Cond.methodLink "TurnCounts" 133 ⟨"TurnCounts$PatternTable", "amountOfWeight", "(ILTurnCounts$Setting;)I"⟩ ∈ tg := List.mem_filter.mpr ⟨List.mem_append_right _ (List.mem_append_right _ (List.mem_append_left _ (List.mem_of_getElem? (i := 118) (by decide +kernel)))), by decide +kernel⟩
theorem tb_359 : Cond.instanceMethod ⟨"TurnCounts$PatternTable", "amountOfWeight", "(ILTurnCounts$Setting;)I"⟩ ∈ tg := List.mem_filter.mpr ⟨List.mem_append_right _ (List.mem_append_right _ (List.mem_append_left _ (List.mem_of_getElem? (i := 119) (by decide +kernel)))), by decide +kernel⟩
theorem tb_360 : Cond.selects "TurnCounts$PatternTable" ⟨"TurnCounts$PatternTable", "amountOfWeight", "(ILTurnCounts$Setting;)I"⟩ ⟨"TurnCounts$PatternTable", "amountOfWeight", "(ILTurnCounts$Setting;)I"⟩ ∈ tg := List.mem_filter.mpr ⟨List.mem_append_right _ (List.mem_append_right _ (List.mem_append_left _ (List.mem_of_getElem? (i := 120) (by decide +kernel)))), by decide +kernel⟩
theorem tb_361 : Cond.code ⟨"TurnCounts$PatternTable", "amountOfWeight", "(ILTurnCounts$Setting;)I"⟩ prog_4_method_13_code 5 (Option.some FieldType.int) ∈ tg := List.mem_filter.mpr ⟨List.mem_append_right _ (List.mem_append_right _ (List.mem_append_left _ (List.mem_of_getElem? (i := 121) (by decide +kernel)))), by decide +kernel⟩
theorem tb_362 : Cond.methodLink "TurnCounts$PatternTable" 90 ⟨"TurnCounts$PatternTable", "leastOf", "(I)I"⟩ ∈ tg := List.mem_filter.mpr ⟨List.mem_append_right _ (List.mem_append_right _ (List.mem_append_left _ (List.mem_of_getElem? (i := 122) (by decide +kernel)))), by decide +kernel⟩
theorem tb_363 : Cond.instanceMethod ⟨"TurnCounts$PatternTable", "leastOf", "(I)I"⟩ ∈ tg := List.mem_filter.mpr ⟨List.mem_append_right _ (List.mem_append_right _ (List.mem_append_left _ (List.mem_of_getElem? (i := 123) (by decide +kernel)))), by decide +kernel⟩
theorem tb_364 : Cond.selects "TurnCounts$PatternTable" ⟨"TurnCounts$PatternTable", "leastOf", "(I)I"⟩ ⟨"TurnCounts$PatternTable", "leastOf", "(I)I"⟩ ∈ tg := List.mem_filter.mpr ⟨List.mem_append_right _ (List.mem_append_right _ (List.mem_append_left _ (List.mem_of_getElem? (i := 124) (by decide +kernel)))), by decide +kernel⟩
theorem tb_365 : Cond.code ⟨"TurnCounts$PatternTable", "leastOf", "(I)I"⟩ prog_4_method_8_code 3 (Option.some FieldType.int) ∈ tg := List.mem_filter.mpr ⟨List.mem_append_right _ (List.mem_append_right _ (List.mem_append_left _ (List.mem_of_getElem? (i := 125) (by decide +kernel)))), by decide +kernel⟩
theorem tb_366 : Cond.methodLink "TurnCounts$PatternTable" 109 ⟨"TurnCounts$Setting", "weightOf", "(I)I"⟩ ∈ tg := List.mem_filter.mpr ⟨List.mem_append_right _ (List.mem_append_right _ (List.mem_append_left _ (List.mem_of_getElem? (i := 126) (by decide +kernel)))), by decide +kernel⟩
theorem tb_367 : Cond.instanceMethod ⟨"TurnCounts$Setting", "weightOf", "(I)I"⟩ ∈ tg := List.mem_filter.mpr ⟨List.mem_append_right _ (List.mem_append_right _ (List.mem_append_left _ (List.mem_of_getElem? (i := 127) (by decide +kernel)))), by decide +kernel⟩
theorem tb_368 : Cond.selects "TurnCounts$Setting" ⟨"TurnCounts$Setting", "weightOf", "(I)I"⟩ ⟨"TurnCounts$Setting", "weightOf", "(I)I"⟩ ∈ tg := List.mem_filter.mpr ⟨List.mem_append_right _ (List.mem_append_right _ (List.mem_append_left _ (List.mem_of_getElem? (i := 128) (by decide +kernel)))), by decide +kernel⟩
theorem tb_369 : Cond.code ⟨"TurnCounts$Setting", "weightOf", "(I)I"⟩ prog_5_method_6_code 5 (Option.some FieldType.int) ∈ tg := List.mem_filter.mpr ⟨List.mem_append_right _ (List.mem_append_right _ (List.mem_append_left _ (List.mem_of_getElem? (i := 129) (by decide +kernel)))), by decide +kernel⟩
theorem tb_370 : Cond.methodLink "TurnCounts$Setting" 43 ⟨"TurnCounts$Setting", "isReadable", "(I)Z"⟩ ∈ tg := List.mem_filter.mpr ⟨List.mem_append_right _ (List.mem_append_right _ (List.mem_append_left _ (List.mem_of_getElem? (i := 130) (by decide +kernel)))), by decide +kernel⟩
theorem tb_372 : Cond.instanceMethod ⟨"TurnCounts$Setting", "isReadable", "(I)Z"⟩ ∈ tg := List.mem_filter.mpr ⟨List.mem_append_right _ (List.mem_append_right _ (List.mem_append_left _ (List.mem_of_getElem? (i := 132) (by decide +kernel)))), by decide +kernel⟩
theorem tb_373 : Cond.code ⟨"TurnCounts$Setting", "isReadable", "(I)Z"⟩ prog_5_method_4_code 2 (Option.some FieldType.boolean) ∈ tg := List.mem_filter.mpr ⟨List.mem_append_right _ (List.mem_append_right _ (List.mem_append_left _ (List.mem_of_getElem? (i := 133) (by decide +kernel)))), by decide +kernel⟩
theorem tb_374 : Cond.methodLinkNest "TurnCounts$Setting" 39 ⟨"TurnCounts", "isWithin", "(III)Z"⟩ "TurnCounts" ∈ lw_tbl := List.mem_append_right _ (List.mem_append_right _ (List.mem_append_left _ (List.mem_of_getElem? (i := 134) (by decide +kernel))))
theorem tb_375 : Cond.methodLink "TurnCountsLaw" 65 ⟨"TurnCounts", "pattern", "(II)I"⟩ ∈ tg := List.mem_filter.mpr ⟨List.mem_append_right _ (List.mem_append_right _ (List.mem_append_left _ (List.mem_of_getElem? (i := 135) (by decide +kernel)))), by decide +kernel⟩
theorem tb_376 : Cond.instanceMethod ⟨"TurnCounts", "pattern", "(II)I"⟩ ∈ tg := List.mem_filter.mpr ⟨List.mem_append_right _ (List.mem_append_right _ (List.mem_append_left _ (List.mem_of_getElem? (i := 136) (by decide +kernel)))), by decide +kernel⟩
theorem tb_377 : Cond.selects "TurnCounts" ⟨"TurnCounts", "pattern", "(II)I"⟩ ⟨"TurnCounts", "pattern", "(II)I"⟩ ∈ tg := List.mem_filter.mpr ⟨List.mem_append_right _ (List.mem_append_right _ (List.mem_append_left _ (List.mem_of_getElem? (i := 137) (by decide +kernel)))), by decide +kernel⟩
theorem tb_378 : Cond.code ⟨"TurnCounts", "pattern", "(II)I"⟩ prog_1_method_14_code 4 (Option.some FieldType.int) ∈ tg := List.mem_filter.mpr ⟨List.mem_append_right _ (List.mem_append_right _ (List.mem_append_left _ (List.mem_of_getElem? (i := 138) (by decide +kernel)))), by decide +kernel⟩
theorem tb_379 : Cond.methodLink "TurnCounts" 137 ⟨"TurnCounts$PatternTable", "leastOf", "(I)I"⟩ ∈ tg := List.mem_filter.mpr ⟨List.mem_append_right _ (List.mem_append_right _ (List.mem_append_left _ (List.mem_of_getElem? (i := 139) (by decide +kernel)))), by decide +kernel⟩
theorem tb_380 : Cond.methodLink "TurnCounts" 140 ⟨"TurnCounts$PatternTable", "sizeOf", "(I)I"⟩ ∈ tg := List.mem_filter.mpr ⟨List.mem_append_right _ (List.mem_append_right _ (List.mem_append_left _ (List.mem_of_getElem? (i := 140) (by decide +kernel)))), by decide +kernel⟩
theorem tb_381 : Cond.instanceMethod ⟨"TurnCounts$PatternTable", "sizeOf", "(I)I"⟩ ∈ tg := List.mem_filter.mpr ⟨List.mem_append_right _ (List.mem_append_right _ (List.mem_append_left _ (List.mem_of_getElem? (i := 141) (by decide +kernel)))), by decide +kernel⟩
theorem tb_382 : Cond.selects "TurnCounts$PatternTable" ⟨"TurnCounts$PatternTable", "sizeOf", "(I)I"⟩ ⟨"TurnCounts$PatternTable", "sizeOf", "(I)I"⟩ ∈ tg := List.mem_filter.mpr ⟨List.mem_append_right _ (List.mem_append_right _ (List.mem_append_left _ (List.mem_of_getElem? (i := 142) (by decide +kernel)))), by decide +kernel⟩
theorem tb_383 : Cond.code ⟨"TurnCounts$PatternTable", "sizeOf", "(I)I"⟩ prog_4_method_9_code 2 (Option.some FieldType.int) ∈ tg := List.mem_filter.mpr ⟨List.mem_append_right _ (List.mem_append_right _ (List.mem_append_left _ (List.mem_of_getElem? (i := 143) (by decide +kernel)))), by decide +kernel⟩
theorem tb_384 : Cond.methodLink "TurnCounts" 143 ⟨"TurnCounts$Setting", "weightOf", "(I)I"⟩ ∈ tg := List.mem_filter.mpr ⟨List.mem_append_right _ (List.mem_append_right _ (List.mem_append_left _ (List.mem_of_getElem? (i := 144) (by decide +kernel)))), by decide +kernel⟩
theorem tb_385 : Cond.methodLink "TurnCounts" 146 ⟨"TurnCounts$PatternTable", "twinOf", "(ILTurnCounts$Setting;)I"⟩ ∈ tg := List.mem_filter.mpr ⟨List.mem_append_right _ (List.mem_append_right _ (List.mem_append_left _ (List.mem_of_getElem? (i := 145) (by decide +kernel)))), by decide +kernel⟩
theorem tb_386 : Cond.instanceMethod ⟨"TurnCounts$PatternTable", "twinOf", "(ILTurnCounts$Setting;)I"⟩ ∈ tg := List.mem_filter.mpr ⟨List.mem_append_right _ (List.mem_append_right _ (List.mem_append_left _ (List.mem_of_getElem? (i := 146) (by decide +kernel)))), by decide +kernel⟩
theorem tb_387 : Cond.selects "TurnCounts$PatternTable" ⟨"TurnCounts$PatternTable", "twinOf", "(ILTurnCounts$Setting;)I"⟩ ⟨"TurnCounts$PatternTable", "twinOf", "(ILTurnCounts$Setting;)I"⟩ ∈ tg := List.mem_filter.mpr ⟨List.mem_append_right _ (List.mem_append_right _ (List.mem_append_left _ (List.mem_of_getElem? (i := 147) (by decide +kernel)))), by decide +kernel⟩
theorem tb_388 : Cond.code ⟨"TurnCounts$PatternTable", "twinOf", "(ILTurnCounts$Setting;)I"⟩ prog_4_method_10_code 3 (Option.some FieldType.int) ∈ tg := List.mem_filter.mpr ⟨List.mem_append_right _ (List.mem_append_right _ (List.mem_append_left _ (List.mem_of_getElem? (i := 148) (by decide +kernel)))), by decide +kernel⟩
theorem tb_389 : Cond.methodLink "TurnCounts$PatternTable" 94 ⟨"TurnCounts$Setting", "mirrored", "(I)I"⟩ ∈ tg := List.mem_filter.mpr ⟨List.mem_append_right _ (List.mem_append_right _ (List.mem_append_left _ (List.mem_of_getElem? (i := 149) (by decide +kernel)))), by decide +kernel⟩
theorem tb_390 : Cond.instanceMethod ⟨"TurnCounts$Setting", "mirrored", "(I)I"⟩ ∈ tg := List.mem_filter.mpr ⟨List.mem_append_right _ (List.mem_append_right _ (List.mem_append_left _ (List.mem_of_getElem? (i := 150) (by decide +kernel)))), by decide +kernel⟩
theorem tb_391 : Cond.selects "TurnCounts$Setting" ⟨"TurnCounts$Setting", "mirrored", "(I)I"⟩ ⟨"TurnCounts$Setting", "mirrored", "(I)I"⟩ ∈ tg := List.mem_filter.mpr ⟨List.mem_append_right _ (List.mem_append_right _ (List.mem_append_left _ (List.mem_of_getElem? (i := 151) (by decide +kernel)))), by decide +kernel⟩
theorem tb_392 : Cond.code ⟨"TurnCounts$Setting", "mirrored", "(I)I"⟩ prog_5_method_5_code 5 (Option.some FieldType.int) ∈ tg := List.mem_filter.mpr ⟨List.mem_append_right _ (List.mem_append_right _ (List.mem_append_left _ (List.mem_of_getElem? (i := 152) (by decide +kernel)))), by decide +kernel⟩
theorem tb_393 : Cond.methodLink "TurnCounts$PatternTable" 97 ⟨"TurnCounts$PatternTable", "patternOf", "(I)I"⟩ ∈ tg := List.mem_filter.mpr ⟨List.mem_append_right _ (List.mem_append_right _ (List.mem_append_left _ (List.mem_of_getElem? (i := 153) (by decide +kernel)))), by decide +kernel⟩
theorem tb_394 : Cond.instanceMethod ⟨"TurnCounts$PatternTable", "patternOf", "(I)I"⟩ ∈ tg := List.mem_filter.mpr ⟨List.mem_append_right _ (List.mem_append_right _ (List.mem_append_left _ (List.mem_of_getElem? (i := 154) (by decide +kernel)))), by decide +kernel⟩
theorem tb_395 : Cond.selects "TurnCounts$PatternTable" ⟨"TurnCounts$PatternTable", "patternOf", "(I)I"⟩ ⟨"TurnCounts$PatternTable", "patternOf", "(I)I"⟩ ∈ tg := List.mem_filter.mpr ⟨List.mem_append_right _ (List.mem_append_right _ (List.mem_append_left _ (List.mem_of_getElem? (i := 155) (by decide +kernel)))), by decide +kernel⟩
theorem tb_396 : Cond.code ⟨"TurnCounts$PatternTable", "patternOf", "(I)I"⟩ prog_4_method_6_code 2 (Option.some FieldType.int) ∈ tg := List.mem_filter.mpr ⟨List.mem_append_right _ (List.mem_append_right _ (List.mem_append_left _ (List.mem_of_getElem? (i := 156) (by decide +kernel)))), by decide +kernel⟩
theorem tb_397 : Cond.methodLink "TurnCounts" 149 ⟨"TurnCounts$Setting", "coloursOf", "(I)I"⟩ ∈ tg := List.mem_filter.mpr ⟨List.mem_append_right _ (List.mem_append_right _ (List.mem_append_left _ (List.mem_of_getElem? (i := 157) (by decide +kernel)))), by decide +kernel⟩
theorem tb_398 : Cond.instanceMethod ⟨"TurnCounts$Setting", "coloursOf", "(I)I"⟩ ∈ tg := List.mem_filter.mpr ⟨List.mem_append_right _ (List.mem_append_right _ (List.mem_append_left _ (List.mem_of_getElem? (i := 158) (by decide +kernel)))), by decide +kernel⟩
theorem tb_399 : Cond.selects "TurnCounts$Setting" ⟨"TurnCounts$Setting", "coloursOf", "(I)I"⟩ ⟨"TurnCounts$Setting", "coloursOf", "(I)I"⟩ ∈ tg := List.mem_filter.mpr ⟨List.mem_append_right _ (List.mem_append_right _ (List.mem_append_left _ (List.mem_of_getElem? (i := 159) (by decide +kernel)))), by decide +kernel⟩
theorem tb_400 : Cond.code ⟨"TurnCounts$Setting", "coloursOf", "(I)I"⟩ prog_5_method_7_code 5 (Option.some FieldType.int) ∈ tg := List.mem_filter.mpr ⟨List.mem_append_right _ (List.mem_append_right _ (List.mem_append_left _ (List.mem_of_getElem? (i := 160) (by decide +kernel)))), by decide +kernel⟩
theorem tb_401 : Cond.methodLink "TurnCounts$Setting" 47 ⟨"java/lang/Integer", "bitCount", "(I)I"⟩ ∈ tg := List.mem_filter.mpr ⟨List.mem_append_right _ (List.mem_append_right _ (List.mem_append_left _ (List.mem_of_getElem? (i := 161) (by decide +kernel)))), by decide +kernel⟩
theorem tb_402 : Cond.methodLink "TurnCountsLaw" 69 ⟨"TurnCounts", "of", "(II)I"⟩ ∈ tg := List.mem_filter.mpr ⟨List.mem_append_right _ (List.mem_append_right _ (List.mem_append_left _ (List.mem_of_getElem? (i := 162) (by decide +kernel)))), by decide +kernel⟩
theorem tb_403 : Cond.instanceMethod ⟨"TurnCounts", "of", "(II)I"⟩ ∈ tg := List.mem_filter.mpr ⟨List.mem_append_right _ (List.mem_append_right _ (List.mem_append_left _ (List.mem_of_getElem? (i := 163) (by decide +kernel)))), by decide +kernel⟩
theorem tb_404 : Cond.selects "TurnCounts" ⟨"TurnCounts", "of", "(II)I"⟩ ⟨"TurnCounts", "of", "(II)I"⟩ ∈ tg := List.mem_filter.mpr ⟨List.mem_append_right _ (List.mem_append_right _ (List.mem_append_left _ (List.mem_of_getElem? (i := 164) (by decide +kernel)))), by decide +kernel⟩
theorem tb_405 : Cond.code ⟨"TurnCounts", "of", "(II)I"⟩ prog_1_method_15_code 4 (Option.some FieldType.int) ∈ tg := List.mem_filter.mpr ⟨List.mem_append_right _ (List.mem_append_right _ (List.mem_append_left _ (List.mem_of_getElem? (i := 165) (by decide +kernel)))), by decide +kernel⟩
theorem tb_406 : Cond.methodLink "TurnCounts" 152 ⟨"TurnCounts", "isNumber", "(I)Z"⟩ ∈ tg := List.mem_filter.mpr ⟨List.mem_append_right _ (List.mem_append_right _ (List.mem_append_left _ (List.mem_of_getElem? (i := 166) (by decide +kernel)))), by decide +kernel⟩
theorem tb_408 : Cond.instanceMethod ⟨"TurnCounts", "isNumber", "(I)Z"⟩ ∈ tg := List.mem_filter.mpr ⟨List.mem_append_right _ (List.mem_append_right _ (List.mem_append_left _ (List.mem_of_getElem? (i := 168) (by decide +kernel)))), by decide +kernel⟩
theorem tb_409 : Cond.code ⟨"TurnCounts", "isNumber", "(I)Z"⟩ prog_1_method_23_code 2 (Option.some FieldType.boolean) ∈ tg := List.mem_filter.mpr ⟨List.mem_append_right _ (List.mem_append_right _ (List.mem_append_left _ (List.mem_of_getElem? (i := 169) (by decide +kernel)))), by decide +kernel⟩
theorem tb_410 : Cond.methodLink "TurnCounts" 188 ⟨"TurnCounts$Setting", "colourings", "()I"⟩ ∈ tg := List.mem_filter.mpr ⟨List.mem_append_right _ (List.mem_append_right _ (List.mem_append_left _ (List.mem_of_getElem? (i := 170) (by decide +kernel)))), by decide +kernel⟩
theorem tb_411 : Cond.methodLink "TurnCounts" 155 ⟨"TurnCounts$Setting", "mirrored", "(I)I"⟩ ∈ tg := List.mem_filter.mpr ⟨List.mem_append_right _ (List.mem_append_right _ (List.mem_append_left _ (List.mem_of_getElem? (i := 171) (by decide +kernel)))), by decide +kernel⟩
theorem tb_412 : Cond.methodLink "TurnCounts" 158 ⟨"TurnCounts$PatternTable", "patternOf", "(I)I"⟩ ∈ tg := List.mem_filter.mpr ⟨List.mem_append_right _ (List.mem_append_right _ (List.mem_append_left _ (List.mem_of_getElem? (i := 172) (by decide +kernel)))), by decide +kernel⟩
theorem tb_413 : Cond.methodLink "TurnCounts" 161 ⟨"TurnCounts$PatternTable", "keepersOf", "(ILTurnCounts$Group;)I"⟩ ∈ tg := List.mem_filter.mpr ⟨List.mem_append_right _ (List.mem_append_right _ (List.mem_append_left _ (List.mem_of_getElem? (i := 173) (by decide +kernel)))), by decide +kernel⟩
theorem tb_414 : Cond.instanceMethod ⟨"TurnCounts$PatternTable", "keepersOf", "(ILTurnCounts$Group;)I"⟩ ∈ tg := List.mem_filter.mpr ⟨List.mem_append_right _ (List.mem_append_right _ (List.mem_append_left _ (List.mem_of_getElem? (i := 174) (by decide +kernel)))), by decide +kernel⟩
theorem tb_415 : Cond.selects "TurnCounts$PatternTable" ⟨"TurnCounts$PatternTable", "keepersOf", "(ILTurnCounts$Group;)I"⟩ ⟨"TurnCounts$PatternTable", "keepersOf", "(ILTurnCounts$Group;)I"⟩ ∈ tg := List.mem_filter.mpr ⟨List.mem_append_right _ (List.mem_append_right _ (List.mem_append_left _ (List.mem_of_getElem? (i := 175) (by decide +kernel)))), by decide +kernel⟩
theorem tb_416 : Cond.code ⟨"TurnCounts$PatternTable", "keepersOf", "(ILTurnCounts$Group;)I"⟩ prog_4_method_11_code 4 (Option.some FieldType.int) ∈ tg := List.mem_filter.mpr ⟨List.mem_append_right _ (List.mem_append_right _ (List.mem_append_left _ (List.mem_of_getElem? (i := 176) (by decide +kernel)))), by decide +kernel⟩
theorem tb_417 : Cond.methodLink "TurnCounts$PatternTable" 100 ⟨"TurnCounts$PatternTable", "sizeOf", "(I)I"⟩ ∈ tg := List.mem_filter.mpr ⟨List.mem_append_right _ (List.mem_append_right _ (List.mem_append_left _ (List.mem_of_getElem? (i := 177) (by decide +kernel)))), by decide +kernel⟩
theorem tb_418 : Cond.methodLink "TurnCountsLaw" 73 ⟨"TurnCounts", "kinds", "(I)I"⟩ ∈ tg := List.mem_filter.mpr ⟨List.mem_append_right _ (List.mem_append_right _ (List.mem_append_left _ (List.mem_of_getElem? (i := 178) (by decide +kernel)))), by decide +kernel⟩
theorem tb_419 : Cond.instanceMethod ⟨"TurnCounts", "kinds", "(I)I"⟩ ∈ tg := List.mem_filter.mpr ⟨List.mem_append_right _ (List.mem_append_right _ (List.mem_append_left _ (List.mem_of_getElem? (i := 179) (by decide +kernel)))), by decide +kernel⟩
theorem tb_420 : Cond.selects "TurnCounts" ⟨"TurnCounts", "kinds", "(I)I"⟩ ⟨"TurnCounts", "kinds", "(I)I"⟩ ∈ tg := List.mem_filter.mpr ⟨List.mem_append_right _ (List.mem_append_right _ (List.mem_append_left _ (List.mem_of_getElem? (i := 180) (by decide +kernel)))), by decide +kernel⟩
theorem tb_421 : Cond.code ⟨"TurnCounts", "kinds", "(I)I"⟩ prog_1_method_16_code 2 (Option.some FieldType.int) ∈ tg := List.mem_filter.mpr ⟨List.mem_append_right _ (List.mem_append_right _ (List.mem_append_left _ (List.mem_of_getElem? (i := 181) (by decide +kernel)))), by decide +kernel⟩
theorem tb_422 : Cond.methodLink "TurnCounts" 165 ⟨"TurnCounts$PatternTable", "amountHanded", "(LTurnCounts$Setting;)I"⟩ ∈ tg := List.mem_filter.mpr ⟨List.mem_append_right _ (List.mem_append_right _ (List.mem_append_left _ (List.mem_of_getElem? (i := 182) (by decide +kernel)))), by decide +kernel⟩
theorem tb_423 : Cond.instanceMethod ⟨"TurnCounts$PatternTable", "amountHanded", "(LTurnCounts$Setting;)I"⟩ ∈ tg := List.mem_filter.mpr ⟨List.mem_append_right _ (List.mem_append_right _ (List.mem_append_left _ (List.mem_of_getElem? (i := 183) (by decide +kernel)))), by decide +kernel⟩
theorem tb_424 : Cond.selects "TurnCounts$PatternTable" ⟨"TurnCounts$PatternTable", "amountHanded", "(LTurnCounts$Setting;)I"⟩ ⟨"TurnCounts$PatternTable", "amountHanded", "(LTurnCounts$Setting;)I"⟩ ∈ tg := List.mem_filter.mpr ⟨List.mem_append_right _ (List.mem_append_right _ (List.mem_append_left _ (List.mem_of_getElem? (i := 184) (by decide +kernel)))), by decide +kernel⟩
theorem tb_425 : Cond.code ⟨"TurnCounts$PatternTable", "amountHanded", "(LTurnCounts$Setting;)I"⟩ prog_4_method_14_code 4 (Option.some FieldType.int) ∈ tg := List.mem_filter.mpr ⟨List.mem_append_right _ (List.mem_append_right _ (List.mem_append_left _ (List.mem_of_getElem? (i := 185) (by decide +kernel)))), by decide +kernel⟩
theorem tb_426 : Cond.methodLink "TurnCounts$PatternTable" 112 ⟨"TurnCounts$PatternTable", "twinOf", "(ILTurnCounts$Setting;)I"⟩ ∈ tg := List.mem_filter.mpr ⟨List.mem_append_right _ (List.mem_append_right _ (List.mem_append_left _ (List.mem_of_getElem? (i := 186) (by decide +kernel)))), by decide +kernel⟩
theorem tb_427 : Cond.methodLink "TurnCounts" 169 ⟨"TurnCounts$PatternTable", "amountOfAllColours", "(LTurnCounts$Setting;)I"⟩ ∈ tg := List.mem_filter.mpr ⟨List.mem_append_right _ (List.mem_append_right _ (List.mem_append_left _ (List.mem_of_getElem? (i := 187) (by decide +kernel)))), by decide +kernel⟩
theorem tb_428 : Cond.instanceMethod ⟨"TurnCounts$PatternTable", "amountOfAllColours", "(LTurnCounts$Setting;)I"⟩ ∈ tg := List.mem_filter.mpr ⟨List.mem_append_right _ (List.mem_append_right _ (List.mem_append_left _ (List.mem_of_getElem? (i := 188) (by decide +kernel)))), by decide +kernel⟩
theorem tb_429 : Cond.selects "TurnCounts$PatternTable" ⟨"TurnCounts$PatternTable", "amountOfAllColours", "(LTurnCounts$Setting;)I"⟩ ⟨"TurnCounts$PatternTable", "amountOfAllColours", "(LTurnCounts$Setting;)I"⟩ ∈ tg := List.mem_filter.mpr ⟨List.mem_append_right _ (List.mem_append_right _ (List.mem_append_left _ (List.mem_of_getElem? (i := 189) (by decide +kernel)))), by decide +kernel⟩
theorem tb_430 : Cond.code ⟨"TurnCounts$PatternTable", "amountOfAllColours", "(LTurnCounts$Setting;)I"⟩ prog_4_method_15_code 4 (Option.some FieldType.int) ∈ tg := List.mem_filter.mpr ⟨List.mem_append_right _ (List.mem_append_right _ (List.mem_append_left _ (List.mem_of_getElem? (i := 190) (by decide +kernel)))), by decide +kernel⟩
theorem tb_431 : Cond.methodLink "TurnCounts$PatternTable" 116 ⟨"TurnCounts$Setting", "coloursOf", "(I)I"⟩ ∈ tg := List.mem_filter.mpr ⟨List.mem_append_right _ (List.mem_append_right _ (List.mem_append_left _ (List.mem_of_getElem? (i := 191) (by decide +kernel)))), by decide +kernel⟩
theorem tb_432 : Cond.methodLink "TurnCounts" 172 ⟨"TurnCounts$PatternTable", "amountAlone", "()I"⟩ ∈ tg := List.mem_filter.mpr ⟨List.mem_append_right _ (List.mem_append_right _ (List.mem_append_left _ (List.mem_of_getElem? (i := 192) (by decide +kernel)))), by decide +kernel⟩
theorem tb_433 : Cond.instanceMethod ⟨"TurnCounts$PatternTable", "amountAlone", "()I"⟩ ∈ tg := List.mem_filter.mpr ⟨List.mem_append_right _ (List.mem_append_right _ (List.mem_append_left _ (List.mem_of_getElem? (i := 193) (by decide +kernel)))), by decide +kernel⟩
theorem tb_434 : Cond.selects "TurnCounts$PatternTable" ⟨"TurnCounts$PatternTable", "amountAlone", "()I"⟩ ⟨"TurnCounts$PatternTable", "amountAlone", "()I"⟩ ∈ tg := List.mem_filter.mpr ⟨List.mem_append_right _ (List.mem_append_right _ (List.mem_append_left _ (List.mem_of_getElem? (i := 194) (by decide +kernel)))), by decide +kernel⟩
theorem tb_435 : Cond.code ⟨"TurnCounts$PatternTable", "amountAlone", "()I"⟩ prog_4_method_16_code 3 (Option.some FieldType.int) ∈ tg := List.mem_filter.mpr ⟨List.mem_append_right _ (List.mem_append_right _ (List.mem_append_left _ (List.mem_of_getElem? (i := 195) (by decide +kernel)))), by decide +kernel⟩
theorem tb_436 : Cond.methodLink "TurnCounts" 176 ⟨"TurnCounts$PatternTable", "greatestSize", "()I"⟩ ∈ tg := List.mem_filter.mpr ⟨List.mem_append_right _ (List.mem_append_right _ (List.mem_append_left _ (List.mem_of_getElem? (i := 196) (by decide +kernel)))), by decide +kernel⟩
theorem tb_437 : Cond.instanceMethod ⟨"TurnCounts$PatternTable", "greatestSize", "()I"⟩ ∈ tg := List.mem_filter.mpr ⟨List.mem_append_right _ (List.mem_append_right _ (List.mem_append_left _ (List.mem_of_getElem? (i := 197) (by decide +kernel)))), by decide +kernel⟩
theorem tb_438 : Cond.selects "TurnCounts$PatternTable" ⟨"TurnCounts$PatternTable", "greatestSize", "()I"⟩ ⟨"TurnCounts$PatternTable", "greatestSize", "()I"⟩ ∈ tg := List.mem_filter.mpr ⟨List.mem_append_right _ (List.mem_append_right _ (List.mem_append_left _ (List.mem_of_getElem? (i := 198) (by decide +kernel)))), by decide +kernel⟩
theorem tb_439 : Cond.code ⟨"TurnCounts$PatternTable", "greatestSize", "()I"⟩ prog_4_method_17_code 3 (Option.some FieldType.int) ∈ tg := List.mem_filter.mpr ⟨List.mem_append_right _ (List.mem_append_right _ (List.mem_append_left _ (List.mem_of_getElem? (i := 199) (by decide +kernel)))), by decide +kernel⟩
theorem tb_440 : Cond.methodLink "TurnCounts$PatternTable" 119 ⟨"java/lang/Math", "max", "(II)I"⟩ ∈ tg := List.mem_filter.mpr ⟨List.mem_append_right _ (List.mem_append_right _ (List.mem_append_left _ (List.mem_of_getElem? (i := 200) (by decide +kernel)))), by decide +kernel⟩
theorem tb_441 : Cond.static ⟨"java/lang/Math", "max", "(II)I"⟩ ∈ tg := List.mem_filter.mpr ⟨List.mem_append_right _ (List.mem_append_right _ (List.mem_append_left _ (List.mem_of_getElem? (i := 201) (by decide +kernel)))), by decide +kernel⟩
theorem tb_442 : Cond.code ⟨"java/lang/Math", "max", "(II)I"⟩ prog_11_method_65_code 2 (Option.some FieldType.int) ∈ tg := List.mem_filter.mpr ⟨List.mem_append_right _ (List.mem_append_right _ (List.mem_append_left _ (List.mem_of_getElem? (i := 202) (by decide +kernel)))), by decide +kernel⟩
theorem tb_443 : Cond.methodLink "TurnCountsLaw" 77 ⟨"TurnCounts", "by", "(II)I"⟩ ∈ tg := List.mem_filter.mpr ⟨List.mem_append_right _ (List.mem_append_right _ (List.mem_append_left _ (List.mem_of_getElem? (i := 203) (by decide +kernel)))), by decide +kernel⟩
theorem tb_444 : Cond.instanceMethod ⟨"TurnCounts", "by", "(II)I"⟩ ∈ tg := List.mem_filter.mpr ⟨List.mem_append_right _ (List.mem_append_right _ (List.mem_append_left _ (List.mem_of_getElem? (i := 204) (by decide +kernel)))), by decide +kernel⟩
theorem tb_445 : Cond.selects "TurnCounts" ⟨"TurnCounts", "by", "(II)I"⟩ ⟨"TurnCounts", "by", "(II)I"⟩ ∈ tg := List.mem_filter.mpr ⟨List.mem_append_right _ (List.mem_append_right _ (List.mem_append_left _ (List.mem_of_getElem? (i := 205) (by decide +kernel)))), by decide +kernel⟩
theorem tb_446 : Cond.code ⟨"TurnCounts", "by", "(II)I"⟩ prog_1_method_17_code 3 (Option.some FieldType.int) ∈ tg := List.mem_filter.mpr ⟨List.mem_append_right _ (List.mem_append_right _ (List.mem_append_left _ (List.mem_of_getElem? (i := 206) (by decide +kernel)))), by decide +kernel⟩
theorem tb_447 : Cond.methodLink "TurnCounts" 179 ⟨"TurnCounts$PatternTable", "firstToLeast", "(ILTurnCounts$Group;)I"⟩ ∈ tg := List.mem_filter.mpr ⟨List.mem_append_right _ (List.mem_append_right _ (List.mem_append_left _ (List.mem_of_getElem? (i := 207) (by decide +kernel)))), by decide +kernel⟩
theorem tb_448 : Cond.instanceMethod ⟨"TurnCounts$PatternTable", "firstToLeast", "(ILTurnCounts$Group;)I"⟩ ∈ tg := List.mem_filter.mpr ⟨List.mem_append_right _ (List.mem_append_right _ (List.mem_append_left _ (List.mem_of_getElem? (i := 208) (by decide +kernel)))), by decide +kernel⟩
theorem tb_449 : Cond.selects "TurnCounts$PatternTable" ⟨"TurnCounts$PatternTable", "firstToLeast", "(ILTurnCounts$Group;)I"⟩ ⟨"TurnCounts$PatternTable", "firstToLeast", "(ILTurnCounts$Group;)I"⟩ ∈ tg := List.mem_filter.mpr ⟨List.mem_append_right _ (List.mem_append_right _ (List.mem_append_left _ (List.mem_of_getElem? (i := 209) (by decide +kernel)))), by decide +kernel⟩
theorem tb_450 : Cond.code ⟨"TurnCounts$PatternTable", "firstToLeast", "(ILTurnCounts$Group;)I"⟩ prog_4_method_12_code 7 (Option.some FieldType.int) ∈ tg := List.mem_filter.mpr ⟨List.mem_append_right _ (List.mem_append_right _ (List.mem_append_left _ (List.mem_of_getElem? (i := 210) (by decide +kernel)))), by decide +kernel⟩
theorem tb_451 : Cond.methodLink "TurnCounts" 182 ⟨"TurnCounts$Turns", "goal", "(II)I"⟩ ∈ tg := List.mem_filter.mpr ⟨List.mem_append_right _ (List.mem_append_right _ (List.mem_append_left _ (List.mem_of_getElem? (i := 211) (by decide +kernel)))), by decide +kernel⟩
theorem tb_452 : Cond.methodLink "TurnCountsLaw" 81 ⟨"TurnCounts", "image", "(I)I"⟩ ∈ tg := List.mem_filter.mpr ⟨List.mem_append_right _ (List.mem_append_right _ (List.mem_append_left _ (List.mem_of_getElem? (i := 212) (by decide +kernel)))), by decide +kernel⟩
theorem tb_453 : Cond.instanceMethod ⟨"TurnCounts", "image", "(I)I"⟩ ∈ tg := List.mem_filter.mpr ⟨List.mem_append_right _ (List.mem_append_right _ (List.mem_append_left _ (List.mem_of_getElem? (i := 213) (by decide +kernel)))), by decide +kernel⟩
theorem tb_454 : Cond.selects "TurnCounts" ⟨"TurnCounts", "image", "(I)I"⟩ ⟨"TurnCounts", "image", "(I)I"⟩ ∈ tg := List.mem_filter.mpr ⟨List.mem_append_right _ (List.mem_append_right _ (List.mem_append_left _ (List.mem_of_getElem? (i := 214) (by decide +kernel)))), by decide +kernel⟩
theorem tb_455 : Cond.code ⟨"TurnCounts", "image", "(I)I"⟩ prog_1_method_18_code 2 (Option.some FieldType.int) ∈ tg := List.mem_filter.mpr ⟨List.mem_append_right _ (List.mem_append_right _ (List.mem_append_left _ (List.mem_of_getElem? (i := 215) (by decide +kernel)))), by decide +kernel⟩
theorem tb_456 : Cond.methodLink "TurnCounts" 185 ⟨"TurnCounts$Setting", "copyFrom", "(LTurnCounts$Setting;)V"⟩ ∈ tg := List.mem_filter.mpr ⟨List.mem_append_right _ (List.mem_append_right _ (List.mem_append_left _ (List.mem_of_getElem? (i := 216) (by decide +kernel)))), by decide +kernel⟩
theorem tb_457 : Cond.instanceMethod ⟨"TurnCounts$Setting", "copyFrom", "(LTurnCounts$Setting;)V"⟩ ∈ tg := List.mem_filter.mpr ⟨List.mem_append_right _ (List.mem_append_right _ (List.mem_append_left _ (List.mem_of_getElem? (i := 217) (by decide +kernel)))), by decide +kernel⟩
theorem tb_458 : Cond.selects "TurnCounts$Setting" ⟨"TurnCounts$Setting", "copyFrom", "(LTurnCounts$Setting;)V"⟩ ⟨"TurnCounts$Setting", "copyFrom", "(LTurnCounts$Setting;)V"⟩ ∈ tg := List.mem_filter.mpr ⟨List.mem_append_right _ (List.mem_append_right _ (List.mem_append_left _ (List.mem_of_getElem? (i := 218) (by decide +kernel)))), by decide +kernel⟩
theorem tb_459 : Cond.code ⟨"TurnCounts$Setting", "copyFrom", "(LTurnCounts$Setting;)V"⟩ prog_5_method_2_code 2 (Option.none : Option FieldType) ∈ tg := List.mem_filter.mpr ⟨List.mem_append_right _ (List.mem_append_right _ (List.mem_append_left _ (List.mem_of_getElem? (i := 219) (by decide +kernel)))), by decide +kernel⟩
theorem tb_460 : Cond.methodLink "TurnCounts$Setting" 29 ⟨"java/lang/System", "arraycopy", "(Ljava/lang/Object;ILjava/lang/Object;II)V"⟩ ∈ tg := List.mem_filter.mpr ⟨List.mem_append_right _ (List.mem_append_right _ (List.mem_append_left _ (List.mem_of_getElem? (i := 220) (by decide +kernel)))), by decide +kernel⟩
theorem tb_461 : Cond.static ⟨"java/lang/System", "arraycopy", "(Ljava/lang/Object;ILjava/lang/Object;II)V"⟩ ∈ tg := List.mem_filter.mpr ⟨List.mem_append_right _ (List.mem_append_right _ (List.mem_append_left _ (List.mem_of_getElem? (i := 221) (by decide +kernel)))), by decide +kernel⟩
theorem tb_462 : Cond.native ⟨"java/lang/System", "arraycopy", "(Ljava/lang/Object;ILjava/lang/Object;II)V"⟩ ∈ tg := List.mem_filter.mpr ⟨List.mem_append_right _ (List.mem_append_right _ (List.mem_append_left _ (List.mem_of_getElem? (i := 222) (by decide +kernel)))), by decide +kernel⟩
theorem tb_463 : Cond.methodLink "TurnCounts$Setting" 35 ⟨"TurnCounts$Group", "copyFrom", "(LTurnCounts$Group;)V"⟩ ∈ tg := List.mem_filter.mpr ⟨List.mem_append_right _ (List.mem_append_right _ (List.mem_append_left _ (List.mem_of_getElem? (i := 223) (by decide +kernel)))), by decide +kernel⟩
theorem tb_464 : Cond.instanceMethod ⟨"TurnCounts$Group", "copyFrom", "(LTurnCounts$Group;)V"⟩ ∈ tg := List.mem_filter.mpr ⟨List.mem_append_right _ (List.mem_append_right _ (List.mem_append_left _ (List.mem_of_getElem? (i := 224) (by decide +kernel)))), by decide +kernel⟩
theorem tb_465 : Cond.selects "TurnCounts$Group" ⟨"TurnCounts$Group", "copyFrom", "(LTurnCounts$Group;)V"⟩ ⟨"TurnCounts$Group", "copyFrom", "(LTurnCounts$Group;)V"⟩ ∈ tg := List.mem_filter.mpr ⟨List.mem_append_right _ (List.mem_append_right _ (List.mem_append_left _ (List.mem_of_getElem? (i := 225) (by decide +kernel)))), by decide +kernel⟩
theorem tb_466 : Cond.code ⟨"TurnCounts$Group", "copyFrom", "(LTurnCounts$Group;)V"⟩ prog_2_method_3_code 2 (Option.none : Option FieldType) ∈ tg := List.mem_filter.mpr ⟨List.mem_append_right _ (List.mem_append_right _ (List.mem_append_left _ (List.mem_of_getElem? (i := 226) (by decide +kernel)))), by decide +kernel⟩
theorem tb_467 : Cond.methodLink "TurnCounts$Group" 36 ⟨"java/lang/System", "arraycopy", "(Ljava/lang/Object;ILjava/lang/Object;II)V"⟩ ∈ tg := List.mem_filter.mpr ⟨List.mem_append_right _ (List.mem_append_right _ (List.mem_append_left _ (List.mem_of_getElem? (i := 227) (by decide +kernel)))), by decide +kernel⟩
theorem tb_468 : Cond.methodLink "TurnCountsLaw" 85 ⟨"TurnCounts", "restore", "(I)I"⟩ ∈ tg := List.mem_filter.mpr ⟨List.mem_append_right _ (List.mem_append_right _ (List.mem_append_left _ (List.mem_of_getElem? (i := 228) (by decide +kernel)))), by decide +kernel⟩
theorem tb_469 : Cond.instanceMethod ⟨"TurnCounts", "restore", "(I)I"⟩ ∈ tg := List.mem_filter.mpr ⟨List.mem_append_right _ (List.mem_append_right _ (List.mem_append_left _ (List.mem_of_getElem? (i := 229) (by decide +kernel)))), by decide +kernel⟩
theorem tb_470 : Cond.selects "TurnCounts" ⟨"TurnCounts", "restore", "(I)I"⟩ ⟨"TurnCounts", "restore", "(I)I"⟩ ∈ tg := List.mem_filter.mpr ⟨List.mem_append_right _ (List.mem_append_right _ (List.mem_append_left _ (List.mem_of_getElem? (i := 230) (by decide +kernel)))), by decide +kernel⟩
theorem tb_471 : Cond.code ⟨"TurnCounts", "restore", "(I)I"⟩ prog_1_method_19_code 2 (Option.some FieldType.int) ∈ tg := List.mem_filter.mpr ⟨List.mem_append_right _ (List.mem_append_right _ (List.mem_append_left _ (List.mem_of_getElem? (i := 231) (by decide +kernel)))), by decide +kernel⟩
theorem tb_472 : Cond.methodLink "TurnCountsLaw" 89 ⟨"TurnCounts", "count", "(I)I"⟩ ∈ tg := List.mem_filter.mpr ⟨List.mem_append_right _ (List.mem_append_right _ (List.mem_append_left _ (List.mem_of_getElem? (i := 232) (by decide +kernel)))), by decide +kernel⟩
theorem tb_473 : Cond.instanceMethod ⟨"TurnCounts", "count", "(I)I"⟩ ∈ tg := List.mem_filter.mpr ⟨List.mem_append_right _ (List.mem_append_right _ (List.mem_append_left _ (List.mem_of_getElem? (i := 233) (by decide +kernel)))), by decide +kernel⟩
theorem tb_474 : Cond.selects "TurnCounts" ⟨"TurnCounts", "count", "(I)I"⟩ ⟨"TurnCounts", "count", "(I)I"⟩ ∈ tg := List.mem_filter.mpr ⟨List.mem_append_right _ (List.mem_append_right _ (List.mem_append_left _ (List.mem_of_getElem? (i := 234) (by decide +kernel)))), by decide +kernel⟩
theorem tb_475 : Cond.code ⟨"TurnCounts", "count", "(I)I"⟩ prog_1_method_20_code 2 (Option.some FieldType.int) ∈ tg := List.mem_filter.mpr ⟨List.mem_append_right _ (List.mem_append_right _ (List.mem_append_left _ (List.mem_of_getElem? (i := 235) (by decide +kernel)))), by decide +kernel⟩
theorem tb_476 : Cond.classLink "TurnCountsLaw" 10 "TurnCountsModel" ∈ tg := List.mem_filter.mpr ⟨List.mem_append_right _ (List.mem_append_right _ (List.mem_append_left _ (List.mem_of_getElem? (i := 236) (by decide +kernel)))), by decide +kernel⟩
theorem tb_477 : Cond.instantiable "TurnCountsModel" 25 ∈ tg := List.mem_filter.mpr ⟨List.mem_append_right _ (List.mem_append_right _ (List.mem_append_left _ (List.mem_of_getElem? (i := 237) (by decide +kernel)))), by decide +kernel⟩
theorem tb_478 : Cond.methodLink "TurnCountsLaw" 12 ⟨"TurnCountsModel", "<init>", "()V"⟩ ∈ tg := List.mem_filter.mpr ⟨List.mem_append_right _ (List.mem_append_right _ (List.mem_append_left _ (List.mem_of_getElem? (i := 238) (by decide +kernel)))), by decide +kernel⟩
theorem tb_479 : Cond.instanceMethod ⟨"TurnCountsModel", "<init>", "()V"⟩ ∈ tg := List.mem_filter.mpr ⟨List.mem_append_right _ (List.mem_append_right _ (List.mem_append_left _ (List.mem_of_getElem? (i := 239) (by decide +kernel)))), by decide +kernel⟩
theorem tb_480 : Cond.code ⟨"TurnCountsModel", "<init>", "()V"⟩ prog_9_method_1_code 2 (Option.none : Option FieldType) ∈ tg := List.mem_filter.mpr ⟨List.mem_append_right _ (List.mem_append_right _ (List.mem_append_right _ (List.mem_append_left _ (List.mem_of_getElem? (i := 0) (by decide +kernel))))), by decide +kernel⟩
theorem tb_481 : Cond.methodLink "TurnCountsModel" 1 ⟨"java/lang/Object", "<init>", "()V"⟩ ∈ tg := List.mem_filter.mpr ⟨List.mem_append_right _ (List.mem_append_right _ (List.mem_append_right _ (List.mem_append_left _ (List.mem_of_getElem? (i := 1) (by decide +kernel))))), by decide +kernel⟩
theorem tb_482 : Cond.constant "TurnCountsModel" 35 (35280 : Int32) ∈ tg := List.mem_filter.mpr ⟨List.mem_append_right _ (List.mem_append_right _ (List.mem_append_right _ (List.mem_append_left _ (List.mem_of_getElem? (i := 2) (by decide +kernel))))), by decide +kernel⟩
theorem tb_483 : Cond.methodLink "TurnCountsModel" 66 ⟨"TurnCountsModel", "beginGroup", "()V"⟩ ∈ tg := List.mem_filter.mpr ⟨List.mem_append_right _ (List.mem_append_right _ (List.mem_append_right _ (List.mem_append_left _ (List.mem_of_getElem? (i := 3) (by decide +kernel))))), by decide +kernel⟩
theorem tb_485 : Cond.instanceMethod ⟨"TurnCountsModel", "beginGroup", "()V"⟩ ∈ tg := List.mem_filter.mpr ⟨List.mem_append_right _ (List.mem_append_right _ (List.mem_append_right _ (List.mem_append_left _ (List.mem_of_getElem? (i := 5) (by decide +kernel))))), by decide +kernel⟩
theorem tb_486 : Cond.code ⟨"TurnCountsModel", "beginGroup", "()V"⟩ prog_9_method_6_code 1 (Option.none : Option FieldType) ∈ tg := List.mem_filter.mpr ⟨List.mem_append_right _ (List.mem_append_right _ (List.mem_append_right _ (List.mem_append_left _ (List.mem_of_getElem? (i := 6) (by decide +kernel))))), by decide +kernel⟩
theorem tb_487 : Cond.methodLink "TurnCountsModel" 69 ⟨"TurnCountsModel", "closeGroup", "()V"⟩ ∈ tg := List.mem_filter.mpr ⟨List.mem_append_right _ (List.mem_append_right _ (List.mem_append_right _ (List.mem_append_left _ (List.mem_of_getElem? (i := 7) (by decide +kernel))))), by decide +kernel⟩
theorem tb_489 : Cond.instanceMethod ⟨"TurnCountsModel", "closeGroup", "()V"⟩ ∈ tg := List.mem_filter.mpr ⟨List.mem_append_right _ (List.mem_append_right _ (List.mem_append_right _ (List.mem_append_left _ (List.mem_of_getElem? (i := 9) (by decide +kernel))))), by decide +kernel⟩
theorem tb_490 : Cond.code ⟨"TurnCountsModel", "closeGroup", "()V"⟩ prog_9_method_10_code 4 (Option.none : Option FieldType) ∈ tg := List.mem_filter.mpr ⟨List.mem_append_right _ (List.mem_append_right _ (List.mem_append_right _ (List.mem_append_left _ (List.mem_of_getElem? (i := 10) (by decide +kernel))))), by decide +kernel⟩
theorem tb_491 : Cond.methodLink "TurnCountsModel" 83 ⟨"TurnCountsModel", "layStill", "()V"⟩ ∈ tg := List.mem_filter.mpr ⟨List.mem_append_right _ (List.mem_append_right _ (List.mem_append_right _ (List.mem_append_left _ (List.mem_of_getElem? (i := 11) (by decide +kernel))))), by decide +kernel⟩
theorem tb_493 : Cond.instanceMethod ⟨"TurnCountsModel", "layStill", "()V"⟩ ∈ tg := List.mem_filter.mpr ⟨List.mem_append_right _ (List.mem_append_right _ (List.mem_append_right _ (List.mem_append_left _ (List.mem_of_getElem? (i := 13) (by decide +kernel))))), by decide +kernel⟩
theorem tb_494 : Cond.code ⟨"TurnCountsModel", "layStill", "()V"⟩ prog_9_method_8_code 2 (Option.none : Option FieldType) ∈ tg := List.mem_filter.mpr ⟨List.mem_append_right _ (List.mem_append_right _ (List.mem_append_right _ (List.mem_append_left _ (List.mem_of_getElem? (i := 14) (by decide +kernel))))), by decide +kernel⟩
theorem tb_495 : Cond.methodLink "TurnCountsModel" 72 ⟨"TurnCountsModel", "many", "()I"⟩ ∈ tg := List.mem_filter.mpr ⟨List.mem_append_right _ (List.mem_append_right _ (List.mem_append_right _ (List.mem_append_left _ (List.mem_of_getElem? (i := 15) (by decide +kernel))))), by decide +kernel⟩
theorem tb_497 : Cond.instanceMethod ⟨"TurnCountsModel", "many", "()I"⟩ ∈ tg := List.mem_filter.mpr ⟨List.mem_append_right _ (List.mem_append_right _ (List.mem_append_right _ (List.mem_append_left _ (List.mem_of_getElem? (i := 17) (by decide +kernel))))), by decide +kernel⟩
theorem tb_498 : Cond.code ⟨"TurnCountsModel", "many", "()I"⟩ prog_9_method_3_code 1 (Option.some FieldType.int) ∈ tg := List.mem_filter.mpr ⟨List.mem_append_right _ (List.mem_append_right _ (List.mem_append_right _ (List.mem_append_left _ (List.mem_of_getElem? (i := 18) (by decide +kernel))))), by decide +kernel⟩
theorem tb_499 : Cond.methodLink "TurnCountsModel" 86 ⟨"TurnCountsModel", "rank", "()I"⟩ ∈ tg := List.mem_filter.mpr ⟨List.mem_append_right _ (List.mem_append_right _ (List.mem_append_right _ (List.mem_append_left _ (List.mem_of_getElem? (i := 19) (by decide +kernel))))), by decide +kernel⟩
theorem tb_501 : Cond.instanceMethod ⟨"TurnCountsModel", "rank", "()I"⟩ ∈ tg := List.mem_filter.mpr ⟨List.mem_append_right _ (List.mem_append_right _ (List.mem_append_right _ (List.mem_append_left _ (List.mem_of_getElem? (i := 21) (by decide +kernel))))), by decide +kernel⟩
theorem tb_502 : Cond.code ⟨"TurnCountsModel", "rank", "()I"⟩ prog_9_method_4_code 5 (Option.some FieldType.int) ∈ tg := List.mem_filter.mpr ⟨List.mem_append_right _ (List.mem_append_right _ (List.mem_append_right _ (List.mem_append_left _ (List.mem_of_getElem? (i := 22) (by decide +kernel))))), by decide +kernel⟩
theorem tb_503 : Cond.methodLink "TurnCountsModel" 89 ⟨"TurnCountsModel", "meet", "(I)V"⟩ ∈ tg := List.mem_filter.mpr ⟨List.mem_append_right _ (List.mem_append_right _ (List.mem_append_right _ (List.mem_append_left _ (List.mem_of_getElem? (i := 23) (by decide +kernel))))), by decide +kernel⟩
theorem tb_505 : Cond.instanceMethod ⟨"TurnCountsModel", "meet", "(I)V"⟩ ∈ tg := List.mem_filter.mpr ⟨List.mem_append_right _ (List.mem_append_right _ (List.mem_append_right _ (List.mem_append_left _ (List.mem_of_getElem? (i := 25) (by decide +kernel))))), by decide +kernel⟩
theorem tb_506 : Cond.code ⟨"TurnCountsModel", "meet", "(I)V"⟩ prog_9_method_9_code 2 (Option.none : Option FieldType) ∈ tg := List.mem_filter.mpr ⟨List.mem_append_right _ (List.mem_append_right _ (List.mem_append_right _ (List.mem_append_left _ (List.mem_of_getElem? (i := 26) (by decide +kernel))))), by decide +kernel⟩
theorem tb_507 : Cond.methodLink "TurnCountsModel" 93 ⟨"TurnCountsModel", "layRank", "(I)V"⟩ ∈ tg := List.mem_filter.mpr ⟨List.mem_append_right _ (List.mem_append_right _ (List.mem_append_right _ (List.mem_append_left _ (List.mem_of_getElem? (i := 27) (by decide +kernel))))), by decide +kernel⟩
theorem tb_509 : Cond.instanceMethod ⟨"TurnCountsModel", "layRank", "(I)V"⟩ ∈ tg := List.mem_filter.mpr ⟨List.mem_append_right _ (List.mem_append_right _ (List.mem_append_right _ (List.mem_append_left _ (List.mem_of_getElem? (i := 29) (by decide +kernel))))), by decide +kernel⟩
theorem tb_510 : Cond.code ⟨"TurnCountsModel", "layRank", "(I)V"⟩ prog_9_method_5_code 6 (Option.none : Option FieldType) ∈ tg := List.mem_filter.mpr ⟨List.mem_append_right _ (List.mem_append_right _ (List.mem_append_right _ (List.mem_append_left _ (List.mem_of_getElem? (i := 30) (by decide +kernel))))), by decide +kernel⟩
theorem tb_511 : Cond.methodLink "TurnCountsModel" 96 ⟨"TurnCountsModel", "layTurns", "()V"⟩ ∈ tg := List.mem_filter.mpr ⟨List.mem_append_right _ (List.mem_append_right _ (List.mem_append_right _ (List.mem_append_left _ (List.mem_of_getElem? (i := 31) (by decide +kernel))))), by decide +kernel⟩
theorem tb_513 : Cond.instanceMethod ⟨"TurnCountsModel", "layTurns", "()V"⟩ ∈ tg := List.mem_filter.mpr ⟨List.mem_append_right _ (List.mem_append_right _ (List.mem_append_right _ (List.mem_append_left _ (List.mem_of_getElem? (i := 33) (by decide +kernel))))), by decide +kernel⟩
theorem tb_514 : Cond.code ⟨"TurnCountsModel", "layTurns", "()V"⟩ prog_9_method_11_code 3 (Option.none : Option FieldType) ∈ tg := List.mem_filter.mpr ⟨List.mem_append_right _ (List.mem_append_right _ (List.mem_append_right _ (List.mem_append_left _ (List.mem_of_getElem? (i := 34) (by decide +kernel))))), by decide +kernel⟩
theorem tb_515 : Cond.fieldLink "TurnCountsModel" 7 "TurnCountsModel" "state" "[I" ∈ tg := List.mem_filter.mpr ⟨List.mem_append_right _ (List.mem_append_right _ (List.mem_append_right _ (List.mem_append_left _ (List.mem_of_getElem? (i := 35) (by decide +kernel))))), by decide +kernel⟩
theorem tb_516 : Cond.fieldLink "TurnCountsModel" 13 "TurnCountsModel" "images" "[I" ∈ tg := List.mem_filter.mpr ⟨List.mem_append_right _ (List.mem_append_right _ (List.mem_append_right _ (List.mem_append_left _ (List.mem_of_getElem? (i := 36) (by decide +kernel))))), by decide +kernel⟩
theorem tb_517 : Cond.fieldLink "TurnCountsModel" 16 "TurnCountsModel" "isKept" "[Z" ∈ tg := List.mem_filter.mpr ⟨List.mem_append_right _ (List.mem_append_right _ (List.mem_append_right _ (List.mem_append_left _ (List.mem_of_getElem? (i := 37) (by decide +kernel))))), by decide +kernel⟩
theorem tb_518 : Cond.fieldLink "TurnCountsModel" 20 "TurnCountsModel" "pad" "[I" ∈ tg := List.mem_filter.mpr ⟨List.mem_append_right _ (List.mem_append_right _ (List.mem_append_right _ (List.mem_append_left _ (List.mem_of_getElem? (i := 38) (by decide +kernel))))), by decide +kernel⟩
theorem tb_519 : Cond.fieldLink "TurnCountsModel" 130 "TurnCountsModel" "said" "I" ∈ tg := List.mem_filter.mpr ⟨List.mem_append_right _ (List.mem_append_right _ (List.mem_append_right _ (List.mem_append_left _ (List.mem_of_getElem? (i := 39) (by decide +kernel))))), by decide +kernel⟩
theorem tb_520 : Cond.fieldLink "TurnCountsModel" 23 "TurnCountsModel" "row" "[I" ∈ tg := List.mem_filter.mpr ⟨List.mem_append_right _ (List.mem_append_right _ (List.mem_append_right _ (List.mem_append_left _ (List.mem_of_getElem? (i := 40) (by decide +kernel))))), by decide +kernel⟩
theorem tb_521 : Cond.fieldLink "TurnCountsModel" 26 "TurnCountsModel" "isUsed" "[Z" ∈ tg := List.mem_filter.mpr ⟨List.mem_append_right _ (List.mem_append_right _ (List.mem_append_right _ (List.mem_append_left _ (List.mem_of_getElem? (i := 41) (by decide +kernel))))), by decide +kernel⟩
theorem tb_522 : Cond.fieldLink "TurnCountsModel" 29 "TurnCountsModel" "maker" "[I" ∈ tg := List.mem_filter.mpr ⟨List.mem_append_right _ (List.mem_append_right _ (List.mem_append_right _ (List.mem_append_left _ (List.mem_of_getElem? (i := 42) (by decide +kernel))))), by decide +kernel⟩
theorem tb_523 : Cond.fieldLink "TurnCountsModel" 76 "TurnCountsModel" "makers" "I" ∈ tg := List.mem_filter.mpr ⟨List.mem_append_right _ (List.mem_append_right _ (List.mem_append_right _ (List.mem_append_left _ (List.mem_of_getElem? (i := 43) (by decide +kernel))))), by decide +kernel⟩
theorem tb_524 : Cond.fieldLink "TurnCountsModel" 32 "TurnCountsModel" "wave" "[I" ∈ tg := List.mem_filter.mpr ⟨List.mem_append_right _ (List.mem_append_right _ (List.mem_append_right _ (List.mem_append_left _ (List.mem_of_getElem? (i := 44) (by decide +kernel))))), by decide +kernel⟩
theorem tb_525 : Cond.fieldLink "TurnCountsModel" 80 "TurnCountsModel" "waved" "I" ∈ tg := List.mem_filter.mpr ⟨List.mem_append_right _ (List.mem_append_right _ (List.mem_append_right _ (List.mem_append_left _ (List.mem_of_getElem? (i := 45) (by decide +kernel))))), by decide +kernel⟩
theorem tb_526 : Cond.fieldLink "TurnCountsModel" 36 "TurnCountsModel" "turnOf" "[I" ∈ tg := List.mem_filter.mpr ⟨List.mem_append_right _ (List.mem_append_right _ (List.mem_append_right _ (List.mem_append_left _ (List.mem_of_getElem? (i := 46) (by decide +kernel))))), by decide +kernel⟩
theorem tb_527 : Cond.fieldLink "TurnCountsModel" 99 "TurnCountsModel" "turns" "I" ∈ tg := List.mem_filter.mpr ⟨List.mem_append_right _ (List.mem_append_right _ (List.mem_append_right _ (List.mem_append_left _ (List.mem_of_getElem? (i := 47) (by decide +kernel))))), by decide +kernel⟩
theorem tb_528 : Cond.fieldLink "TurnCountsModel" 39 "TurnCountsModel" "had" "[I" ∈ tg := List.mem_filter.mpr ⟨List.mem_append_right _ (List.mem_append_right _ (List.mem_append_right _ (List.mem_append_left _ (List.mem_of_getElem? (i := 48) (by decide +kernel))))), by decide +kernel⟩
theorem tb_529 : Cond.fieldLink "TurnCountsModel" 42 "TurnCountsModel" "longs" "[I" ∈ tg := List.mem_filter.mpr ⟨List.mem_append_right _ (List.mem_append_right _ (List.mem_append_right _ (List.mem_append_left _ (List.mem_of_getElem? (i := 49) (by decide +kernel))))), by decide +kernel⟩
theorem tb_530 : Cond.fieldLink "TurnCountsModel" 45 "TurnCountsModel" "types" "[I" ∈ tg := List.mem_filter.mpr ⟨List.mem_append_right _ (List.mem_append_right _ (List.mem_append_right _ (List.mem_append_left _ (List.mem_of_getElem? (i := 50) (by decide +kernel))))), by decide +kernel⟩
theorem tb_531 : Cond.fieldLink "TurnCountsModel" 48 "TurnCountsModel" "typeMany" "[I" ∈ tg := List.mem_filter.mpr ⟨List.mem_append_right _ (List.mem_append_right _ (List.mem_append_right _ (List.mem_append_left _ (List.mem_of_getElem? (i := 51) (by decide +kernel))))), by decide +kernel⟩
theorem tb_532 : Cond.fieldLink "TurnCountsModel" 148 "TurnCountsModel" "typesMany" "I" ∈ tg := List.mem_filter.mpr ⟨List.mem_append_right _ (List.mem_append_right _ (List.mem_append_right _ (List.mem_append_left _ (List.mem_of_getElem? (i := 52) (by decide +kernel))))), by decide +kernel⟩
theorem tb_533 : Cond.fieldLink "TurnCountsModel" 51 "TurnCountsModel" "colour" "[I" ∈ tg := List.mem_filter.mpr ⟨List.mem_append_right _ (List.mem_append_right _ (List.mem_append_right _ (List.mem_append_left _ (List.mem_of_getElem? (i := 53) (by decide +kernel))))), by decide +kernel⟩
theorem tb_534 : Cond.fieldLink "TurnCountsModel" 54 "TurnCountsModel" "patternOf" "[I" ∈ tg := List.mem_filter.mpr ⟨List.mem_append_right _ (List.mem_append_right _ (List.mem_append_right _ (List.mem_append_left _ (List.mem_of_getElem? (i := 54) (by decide +kernel))))), by decide +kernel⟩
theorem tb_535 : Cond.fieldLink "TurnCountsModel" 57 "TurnCountsModel" "leastOf" "[I" ∈ tg := List.mem_filter.mpr ⟨List.mem_append_right _ (List.mem_append_right _ (List.mem_append_right _ (List.mem_append_left _ (List.mem_of_getElem? (i := 55) (by decide +kernel))))), by decide +kernel⟩
theorem tb_536 : Cond.fieldLink "TurnCountsModel" 60 "TurnCountsModel" "sizeOf" "[I" ∈ tg := List.mem_filter.mpr ⟨List.mem_append_right _ (List.mem_append_right _ (List.mem_append_right _ (List.mem_append_left _ (List.mem_of_getElem? (i := 56) (by decide +kernel))))), by decide +kernel⟩
theorem tb_537 : Cond.fieldLink "TurnCountsModel" 169 "TurnCountsModel" "patternMany" "I" ∈ tg := List.mem_filter.mpr ⟨List.mem_append_right _ (List.mem_append_right _ (List.mem_append_right _ (List.mem_append_left _ (List.mem_of_getElem? (i := 57) (by decide +kernel))))), by decide +kernel⟩
theorem tb_538 : Cond.fieldLink "TurnCountsModel" 163 "TurnCountsModel" "colourings" "I" ∈ tg := List.mem_filter.mpr ⟨List.mem_append_right _ (List.mem_append_right _ (List.mem_append_right _ (List.mem_append_left _ (List.mem_of_getElem? (i := 58) (by decide +kernel))))), by decide +kernel⟩
theorem tb_539 : Cond.fieldLink "TurnCountsModel" 63 "TurnCountsModel" "placeWorth" "[I" ∈ tg := List.mem_filter.mpr ⟨List.mem_append_right _ (List.mem_append_right _ (List.mem_append_right _ (List.mem_append_left _ (List.mem_of_getElem? (i := 59) (by decide +kernel))))), by decide +kernel⟩
theorem tb_540 : Cond.laysFinal "TurnCountsModel" "TurnCountsModel" "state" "[I" ∈ tg := List.mem_filter.mpr ⟨List.mem_append_right _ (List.mem_append_right _ (List.mem_append_right _ (List.mem_append_left _ (List.mem_of_getElem? (i := 60) (by decide +kernel))))), by decide +kernel⟩
theorem tb_542 : Cond.laysFinal "TurnCountsModel" "TurnCountsModel" "images" "[I" ∈ tg := List.mem_filter.mpr ⟨List.mem_append_right _ (List.mem_append_right _ (List.mem_append_right _ (List.mem_append_left _ (List.mem_of_getElem? (i := 62) (by decide +kernel))))), by decide +kernel⟩
theorem tb_544 : Cond.laysFinal "TurnCountsModel" "TurnCountsModel" "isKept" "[Z" ∈ tg := List.mem_filter.mpr ⟨List.mem_append_right _ (List.mem_append_right _ (List.mem_append_right _ (List.mem_append_left _ (List.mem_of_getElem? (i := 64) (by decide +kernel))))), by decide +kernel⟩
theorem tb_546 : Cond.laysFinal "TurnCountsModel" "TurnCountsModel" "pad" "[I" ∈ tg := List.mem_filter.mpr ⟨List.mem_append_right _ (List.mem_append_right _ (List.mem_append_right _ (List.mem_append_left _ (List.mem_of_getElem? (i := 66) (by decide +kernel))))), by decide +kernel⟩
theorem tb_548 : Cond.lays "TurnCountsModel" "TurnCountsModel" "said" "I" ∈ tg := List.mem_filter.mpr ⟨List.mem_append_right _ (List.mem_append_right _ (List.mem_append_right _ (List.mem_append_left _ (List.mem_of_getElem? (i := 68) (by decide +kernel))))), by decide +kernel⟩
theorem tb_550 : Cond.laysFinal "TurnCountsModel" "TurnCountsModel" "row" "[I" ∈ tg := List.mem_filter.mpr ⟨List.mem_append_right _ (List.mem_append_right _ (List.mem_append_right _ (List.mem_append_left _ (List.mem_of_getElem? (i := 70) (by decide +kernel))))), by decide +kernel⟩
theorem tb_552 : Cond.laysFinal "TurnCountsModel" "TurnCountsModel" "isUsed" "[Z" ∈ tg := List.mem_filter.mpr ⟨List.mem_append_right _ (List.mem_append_right _ (List.mem_append_right _ (List.mem_append_left _ (List.mem_of_getElem? (i := 72) (by decide +kernel))))), by decide +kernel⟩
theorem tb_554 : Cond.laysFinal "TurnCountsModel" "TurnCountsModel" "maker" "[I" ∈ tg := List.mem_filter.mpr ⟨List.mem_append_right _ (List.mem_append_right _ (List.mem_append_right _ (List.mem_append_left _ (List.mem_of_getElem? (i := 74) (by decide +kernel))))), by decide +kernel⟩
theorem tb_556 : Cond.lays "TurnCountsModel" "TurnCountsModel" "makers" "I" ∈ tg := List.mem_filter.mpr ⟨List.mem_append_right _ (List.mem_append_right _ (List.mem_append_right _ (List.mem_append_left _ (List.mem_of_getElem? (i := 76) (by decide +kernel))))), by decide +kernel⟩
theorem tb_558 : Cond.laysFinal "TurnCountsModel" "TurnCountsModel" "wave" "[I" ∈ tg := List.mem_filter.mpr ⟨List.mem_append_right _ (List.mem_append_right _ (List.mem_append_right _ (List.mem_append_left _ (List.mem_of_getElem? (i := 78) (by decide +kernel))))), by decide +kernel⟩
theorem tb_560 : Cond.lays "TurnCountsModel" "TurnCountsModel" "waved" "I" ∈ tg := List.mem_filter.mpr ⟨List.mem_append_right _ (List.mem_append_right _ (List.mem_append_right _ (List.mem_append_left _ (List.mem_of_getElem? (i := 80) (by decide +kernel))))), by decide +kernel⟩
theorem tb_562 : Cond.laysFinal "TurnCountsModel" "TurnCountsModel" "turnOf" "[I" ∈ tg := List.mem_filter.mpr ⟨List.mem_append_right _ (List.mem_append_right _ (List.mem_append_right _ (List.mem_append_left _ (List.mem_of_getElem? (i := 82) (by decide +kernel))))), by decide +kernel⟩
theorem tb_564 : Cond.lays "TurnCountsModel" "TurnCountsModel" "turns" "I" ∈ tg := List.mem_filter.mpr ⟨List.mem_append_right _ (List.mem_append_right _ (List.mem_append_right _ (List.mem_append_left _ (List.mem_of_getElem? (i := 84) (by decide +kernel))))), by decide +kernel⟩
theorem tb_566 : Cond.laysFinal "TurnCountsModel" "TurnCountsModel" "had" "[I" ∈ tg := List.mem_filter.mpr ⟨List.mem_append_right _ (List.mem_append_right _ (List.mem_append_right _ (List.mem_append_left _ (List.mem_of_getElem? (i := 86) (by decide +kernel))))), by decide +kernel⟩
theorem tb_568 : Cond.laysFinal "TurnCountsModel" "TurnCountsModel" "longs" "[I" ∈ tg := List.mem_filter.mpr ⟨List.mem_append_right _ (List.mem_append_right _ (List.mem_append_right _ (List.mem_append_left _ (List.mem_of_getElem? (i := 88) (by decide +kernel))))), by decide +kernel⟩
theorem tb_570 : Cond.laysFinal "TurnCountsModel" "TurnCountsModel" "types" "[I" ∈ tg := List.mem_filter.mpr ⟨List.mem_append_right _ (List.mem_append_right _ (List.mem_append_right _ (List.mem_append_left _ (List.mem_of_getElem? (i := 90) (by decide +kernel))))), by decide +kernel⟩
theorem tb_572 : Cond.laysFinal "TurnCountsModel" "TurnCountsModel" "typeMany" "[I" ∈ tg := List.mem_filter.mpr ⟨List.mem_append_right _ (List.mem_append_right _ (List.mem_append_right _ (List.mem_append_left _ (List.mem_of_getElem? (i := 92) (by decide +kernel))))), by decide +kernel⟩
theorem tb_574 : Cond.lays "TurnCountsModel" "TurnCountsModel" "typesMany" "I" ∈ tg := List.mem_filter.mpr ⟨List.mem_append_right _ (List.mem_append_right _ (List.mem_append_right _ (List.mem_append_left _ (List.mem_of_getElem? (i := 94) (by decide +kernel))))), by decide +kernel⟩
theorem tb_576 : Cond.laysFinal "TurnCountsModel" "TurnCountsModel" "colour" "[I" ∈ tg := List.mem_filter.mpr ⟨List.mem_append_right _ (List.mem_append_right _ (List.mem_append_right _ (List.mem_append_left _ (List.mem_of_getElem? (i := 96) (by decide +kernel))))), by decide +kernel⟩
theorem tb_578 : Cond.laysFinal "TurnCountsModel" "TurnCountsModel" "patternOf" "[I" ∈ tg := List.mem_filter.mpr ⟨List.mem_append_right _ (List.mem_append_right _ (List.mem_append_right _ (List.mem_append_left _ (List.mem_of_getElem? (i := 98) (by decide +kernel))))), by decide +kernel⟩
theorem tb_580 : Cond.laysFinal "TurnCountsModel" "TurnCountsModel" "leastOf" "[I" ∈ tg := List.mem_filter.mpr ⟨List.mem_append_right _ (List.mem_append_right _ (List.mem_append_right _ (List.mem_append_left _ (List.mem_of_getElem? (i := 100) (by decide +kernel))))), by decide +kernel⟩
theorem tb_582 : Cond.laysFinal "TurnCountsModel" "TurnCountsModel" "sizeOf" "[I" ∈ tg := List.mem_filter.mpr ⟨List.mem_append_right _ (List.mem_append_right _ (List.mem_append_right _ (List.mem_append_left _ (List.mem_of_getElem? (i := 102) (by decide +kernel))))), by decide +kernel⟩
theorem tb_584 : Cond.lays "TurnCountsModel" "TurnCountsModel" "patternMany" "I" ∈ tg := List.mem_filter.mpr ⟨List.mem_append_right _ (List.mem_append_right _ (List.mem_append_right _ (List.mem_append_left _ (List.mem_of_getElem? (i := 104) (by decide +kernel))))), by decide +kernel⟩
theorem tb_586 : Cond.lays "TurnCountsModel" "TurnCountsModel" "colourings" "I" ∈ tg := List.mem_filter.mpr ⟨List.mem_append_right _ (List.mem_append_right _ (List.mem_append_right _ (List.mem_append_left _ (List.mem_of_getElem? (i := 106) (by decide +kernel))))), by decide +kernel⟩
theorem tb_588 : Cond.laysFinal "TurnCountsModel" "TurnCountsModel" "placeWorth" "[I" ∈ tg := List.mem_filter.mpr ⟨List.mem_append_right _ (List.mem_append_right _ (List.mem_append_right _ (List.mem_append_left _ (List.mem_of_getElem? (i := 108) (by decide +kernel))))), by decide +kernel⟩
theorem tb_591 : Cond.arrayClass FieldType.boolean ∈ tg := List.mem_filter.mpr ⟨List.mem_append_right _ (List.mem_append_right _ (List.mem_append_right _ (List.mem_append_left _ (List.mem_of_getElem? (i := 111) (by decide +kernel))))), by decide +kernel⟩
theorem tb_592 : Cond.methodLink "TurnCountsLaw" 17 ⟨"TurnCountsModel", "points", "(I)I"⟩ ∈ tg := List.mem_filter.mpr ⟨List.mem_append_right _ (List.mem_append_right _ (List.mem_append_right _ (List.mem_append_left _ (List.mem_of_getElem? (i := 112) (by decide +kernel))))), by decide +kernel⟩
theorem tb_593 : Cond.instanceMethod ⟨"TurnCountsModel", "points", "(I)I"⟩ ∈ tg := List.mem_filter.mpr ⟨List.mem_append_right _ (List.mem_append_right _ (List.mem_append_right _ (List.mem_append_left _ (List.mem_of_getElem? (i := 113) (by decide +kernel))))), by decide +kernel⟩
theorem tb_594 : Cond.selects "TurnCountsModel" ⟨"TurnCountsModel", "points", "(I)I"⟩ ⟨"TurnCountsModel", "points", "(I)I"⟩ ∈ tg := List.mem_filter.mpr ⟨List.mem_append_right _ (List.mem_append_right _ (List.mem_append_right _ (List.mem_append_left _ (List.mem_of_getElem? (i := 114) (by decide +kernel))))), by decide +kernel⟩
theorem tb_595 : Cond.code ⟨"TurnCountsModel", "points", "(I)I"⟩ prog_9_method_12_code 3 (Option.some FieldType.int) ∈ tg := List.mem_filter.mpr ⟨List.mem_append_right _ (List.mem_append_right _ (List.mem_append_right _ (List.mem_append_left _ (List.mem_of_getElem? (i := 115) (by decide +kernel))))), by decide +kernel⟩
theorem tb_596 : Cond.methodLink "TurnCountsModel" 102 ⟨"TurnCountsModel", "in", "(III)Z"⟩ ∈ tg := List.mem_filter.mpr ⟨List.mem_append_right _ (List.mem_append_right _ (List.mem_append_right _ (List.mem_append_left _ (List.mem_of_getElem? (i := 116) (by decide +kernel))))), by decide +kernel⟩
theorem tb_597 : Cond.static ⟨"TurnCountsModel", "in", "(III)Z"⟩ ∈ tg := List.mem_filter.mpr ⟨List.mem_append_right _ (List.mem_append_right _ (List.mem_append_right _ (List.mem_append_left _ (List.mem_of_getElem? (i := 117) (by decide +kernel))))), by decide +kernel⟩
theorem tb_598 : Cond.code ⟨"TurnCountsModel", "in", "(III)Z"⟩ prog_9_method_2_code 3 (Option.some FieldType.boolean) ∈ tg := List.mem_filter.mpr ⟨List.mem_append_right _ (List.mem_append_right _ (List.mem_append_right _ (List.mem_append_left _ (List.mem_of_getElem? (i := 118) (by decide +kernel))))), by decide +kernel⟩
theorem tb_599 : Cond.methodLink "TurnCountsLaw" 22 ⟨"TurnCountsModel", "beside", "(III)I"⟩ ∈ tg := List.mem_filter.mpr ⟨List.mem_append_right _ (List.mem_append_right _ (List.mem_append_right _ (List.mem_append_left _ (List.mem_of_getElem? (i := 119) (by decide +kernel))))), by decide +kernel⟩
theorem tb_600 : Cond.instanceMethod ⟨"TurnCountsModel", "beside", "(III)I"⟩ ∈ tg := List.mem_filter.mpr ⟨List.mem_append_right _ (List.mem_append_right _ (List.mem_append_right _ (List.mem_append_left _ (List.mem_of_getElem? (i := 120) (by decide +kernel))))), by decide +kernel⟩
theorem tb_601 : Cond.selects "TurnCountsModel" ⟨"TurnCountsModel", "beside", "(III)I"⟩ ⟨"TurnCountsModel", "beside", "(III)I"⟩ ∈ tg := List.mem_filter.mpr ⟨List.mem_append_right _ (List.mem_append_right _ (List.mem_append_right _ (List.mem_append_left _ (List.mem_of_getElem? (i := 121) (by decide +kernel))))), by decide +kernel⟩
theorem tb_602 : Cond.code ⟨"TurnCountsModel", "beside", "(III)I"⟩ prog_9_method_19_code 4 (Option.some FieldType.int) ∈ tg := List.mem_filter.mpr ⟨List.mem_append_right _ (List.mem_append_right _ (List.mem_append_right _ (List.mem_append_left _ (List.mem_of_getElem? (i := 122) (by decide +kernel))))), by decide +kernel⟩
theorem tb_603 : Cond.methodLink "TurnCountsModel" 123 ⟨"TurnCountsModel", "isKind", "(I)Z"⟩ ∈ tg := List.mem_filter.mpr ⟨List.mem_append_right _ (List.mem_append_right _ (List.mem_append_right _ (List.mem_append_left _ (List.mem_of_getElem? (i := 123) (by decide +kernel))))), by decide +kernel⟩
theorem tb_604 : Cond.static ⟨"TurnCountsModel", "isKind", "(I)Z"⟩ ∈ tg := List.mem_filter.mpr ⟨List.mem_append_right _ (List.mem_append_right _ (List.mem_append_right _ (List.mem_append_left _ (List.mem_of_getElem? (i := 124) (by decide +kernel))))), by decide +kernel⟩
theorem tb_605 : Cond.code ⟨"TurnCountsModel", "isKind", "(I)Z"⟩ prog_9_method_13_code 1 (Option.some FieldType.boolean) ∈ tg := List.mem_filter.mpr ⟨List.mem_append_right _ (List.mem_append_right _ (List.mem_append_right _ (List.mem_append_left _ (List.mem_of_getElem? (i := 125) (by decide +kernel))))), by decide +kernel⟩
theorem tb_606 : Cond.methodLink "TurnCountsModel" 127 ⟨"TurnCountsModel", "addKind", "(IIII)V"⟩ ∈ tg := List.mem_filter.mpr ⟨List.mem_append_right _ (List.mem_append_right _ (List.mem_append_right _ (List.mem_append_left _ (List.mem_of_getElem? (i := 126) (by decide +kernel))))), by decide +kernel⟩
theorem tb_608 : Cond.instanceMethod ⟨"TurnCountsModel", "addKind", "(IIII)V"⟩ ∈ tg := List.mem_filter.mpr ⟨List.mem_append_right _ (List.mem_append_right _ (List.mem_append_right _ (List.mem_append_left _ (List.mem_of_getElem? (i := 128) (by decide +kernel))))), by decide +kernel⟩
theorem tb_609 : Cond.code ⟨"TurnCountsModel", "addKind", "(IIII)V"⟩ prog_9_method_18_code 7 (Option.none : Option FieldType) ∈ tg := List.mem_filter.mpr ⟨List.mem_append_right _ (List.mem_append_right _ (List.mem_append_right _ (List.mem_append_left _ (List.mem_of_getElem? (i := 129) (by decide +kernel))))), by decide +kernel⟩
theorem tb_610 : Cond.methodLink "TurnCountsModel" 113 ⟨"TurnCountsModel", "addRound", "(III)V"⟩ ∈ tg := List.mem_filter.mpr ⟨List.mem_append_right _ (List.mem_append_right _ (List.mem_append_right _ (List.mem_append_left _ (List.mem_of_getElem? (i := 130) (by decide +kernel))))), by decide +kernel⟩
theorem tb_612 : Cond.instanceMethod ⟨"TurnCountsModel", "addRound", "(III)V"⟩ ∈ tg := List.mem_filter.mpr ⟨List.mem_append_right _ (List.mem_append_right _ (List.mem_append_right _ (List.mem_append_left _ (List.mem_of_getElem? (i := 132) (by decide +kernel))))), by decide +kernel⟩
theorem tb_613 : Cond.code ⟨"TurnCountsModel", "addRound", "(III)V"⟩ prog_9_method_15_code 5 (Option.none : Option FieldType) ∈ tg := List.mem_filter.mpr ⟨List.mem_append_right _ (List.mem_append_right _ (List.mem_append_right _ (List.mem_append_left _ (List.mem_of_getElem? (i := 133) (by decide +kernel))))), by decide +kernel⟩
theorem tb_614 : Cond.methodLink "TurnCountsModel" 106 ⟨"TurnCountsModel", "bring", "(IIII)V"⟩ ∈ tg := List.mem_filter.mpr ⟨List.mem_append_right _ (List.mem_append_right _ (List.mem_append_right _ (List.mem_append_left _ (List.mem_of_getElem? (i := 134) (by decide +kernel))))), by decide +kernel⟩
theorem tb_616 : Cond.instanceMethod ⟨"TurnCountsModel", "bring", "(IIII)V"⟩ ∈ tg := List.mem_filter.mpr ⟨List.mem_append_right _ (List.mem_append_right _ (List.mem_append_right _ (List.mem_append_left _ (List.mem_of_getElem? (i := 136) (by decide +kernel))))), by decide +kernel⟩
theorem tb_617 : Cond.code ⟨"TurnCountsModel", "bring", "(IIII)V"⟩ prog_9_method_14_code 6 (Option.none : Option FieldType) ∈ tg := List.mem_filter.mpr ⟨List.mem_append_right _ (List.mem_append_right _ (List.mem_append_right _ (List.mem_append_left _ (List.mem_of_getElem? (i := 137) (by decide +kernel))))), by decide +kernel⟩
theorem tb_618 : Cond.methodLink "TurnCountsModel" 110 ⟨"TurnCountsModel", "addMaker", "()V"⟩ ∈ tg := List.mem_filter.mpr ⟨List.mem_append_right _ (List.mem_append_right _ (List.mem_append_right _ (List.mem_append_left _ (List.mem_of_getElem? (i := 138) (by decide +kernel))))), by decide +kernel⟩
theorem tb_620 : Cond.instanceMethod ⟨"TurnCountsModel", "addMaker", "()V"⟩ ∈ tg := List.mem_filter.mpr ⟨List.mem_append_right _ (List.mem_append_right _ (List.mem_append_right _ (List.mem_append_left _ (List.mem_of_getElem? (i := 140) (by decide +kernel))))), by decide +kernel⟩
theorem tb_621 : Cond.code ⟨"TurnCountsModel", "addMaker", "()V"⟩ prog_9_method_7_code 2 (Option.none : Option FieldType) ∈ tg := List.mem_filter.mpr ⟨List.mem_append_right _ (List.mem_append_right _ (List.mem_append_right _ (List.mem_append_left _ (List.mem_of_getElem? (i := 141) (by decide +kernel))))), by decide +kernel⟩
theorem tb_622 : Cond.methodLink "TurnCountsModel" 117 ⟨"TurnCountsModel", "addFlip", "(III)V"⟩ ∈ tg := List.mem_filter.mpr ⟨List.mem_append_right _ (List.mem_append_right _ (List.mem_append_right _ (List.mem_append_left _ (List.mem_of_getElem? (i := 142) (by decide +kernel))))), by decide +kernel⟩
theorem tb_624 : Cond.instanceMethod ⟨"TurnCountsModel", "addFlip", "(III)V"⟩ ∈ tg := List.mem_filter.mpr ⟨List.mem_append_right _ (List.mem_append_right _ (List.mem_append_right _ (List.mem_append_left _ (List.mem_of_getElem? (i := 144) (by decide +kernel))))), by decide +kernel⟩
theorem tb_625 : Cond.code ⟨"TurnCountsModel", "addFlip", "(III)V"⟩ prog_9_method_16_code 5 (Option.none : Option FieldType) ∈ tg := List.mem_filter.mpr ⟨List.mem_append_right _ (List.mem_append_right _ (List.mem_append_right _ (List.mem_append_left _ (List.mem_of_getElem? (i := 145) (by decide +kernel))))), by decide +kernel⟩
theorem tb_626 : Cond.methodLink "TurnCountsModel" 120 ⟨"TurnCountsModel", "addNext", "(IIII)V"⟩ ∈ tg := List.mem_filter.mpr ⟨List.mem_append_right _ (List.mem_append_right _ (List.mem_append_right _ (List.mem_append_left _ (List.mem_of_getElem? (i := 146) (by decide +kernel))))), by decide +kernel⟩
theorem tb_628 : Cond.instanceMethod ⟨"TurnCountsModel", "addNext", "(IIII)V"⟩ ∈ tg := List.mem_filter.mpr ⟨List.mem_append_right _ (List.mem_append_right _ (List.mem_append_right _ (List.mem_append_left _ (List.mem_of_getElem? (i := 148) (by decide +kernel))))), by decide +kernel⟩
theorem tb_629 : Cond.code ⟨"TurnCountsModel", "addNext", "(IIII)V"⟩ prog_9_method_17_code 6 (Option.none : Option FieldType) ∈ tg := List.mem_filter.mpr ⟨List.mem_append_right _ (List.mem_append_right _ (List.mem_append_right _ (List.mem_append_left _ (List.mem_of_getElem? (i := 149) (by decide +kernel))))), by decide +kernel⟩
theorem tb_630 : Cond.methodLink "TurnCountsLaw" 26 ⟨"TurnCountsModel", "blocks", "(III)I"⟩ ∈ tg := List.mem_filter.mpr ⟨List.mem_append_right _ (List.mem_append_right _ (List.mem_append_right _ (List.mem_append_left _ (List.mem_of_getElem? (i := 150) (by decide +kernel))))), by decide +kernel⟩
theorem tb_631 : Cond.instanceMethod ⟨"TurnCountsModel", "blocks", "(III)I"⟩ ∈ tg := List.mem_filter.mpr ⟨List.mem_append_right _ (List.mem_append_right _ (List.mem_append_right _ (List.mem_append_left _ (List.mem_of_getElem? (i := 151) (by decide +kernel))))), by decide +kernel⟩
theorem tb_632 : Cond.selects "TurnCountsModel" ⟨"TurnCountsModel", "blocks", "(III)I"⟩ ⟨"TurnCountsModel", "blocks", "(III)I"⟩ ∈ tg := List.mem_filter.mpr ⟨List.mem_append_right _ (List.mem_append_right _ (List.mem_append_right _ (List.mem_append_left _ (List.mem_of_getElem? (i := 152) (by decide +kernel))))), by decide +kernel⟩
theorem tb_633 : Cond.code ⟨"TurnCountsModel", "blocks", "(III)I"⟩ prog_9_method_20_code 5 (Option.some FieldType.int) ∈ tg := List.mem_filter.mpr ⟨List.mem_append_right _ (List.mem_append_right _ (List.mem_append_right _ (List.mem_append_left _ (List.mem_of_getElem? (i := 153) (by decide +kernel))))), by decide +kernel⟩
theorem tb_634 : Cond.methodLink "TurnCountsLaw" 35 ⟨"TurnCountsModel", "say", "(I)I"⟩ ∈ tg := List.mem_filter.mpr ⟨List.mem_append_right _ (List.mem_append_right _ (List.mem_append_right _ (List.mem_append_left _ (List.mem_of_getElem? (i := 154) (by decide +kernel))))), by decide +kernel⟩
theorem tb_635 : Cond.instanceMethod ⟨"TurnCountsModel", "say", "(I)I"⟩ ∈ tg := List.mem_filter.mpr ⟨List.mem_append_right _ (List.mem_append_right _ (List.mem_append_right _ (List.mem_append_left _ (List.mem_of_getElem? (i := 155) (by decide +kernel))))), by decide +kernel⟩
theorem tb_636 : Cond.selects "TurnCountsModel" ⟨"TurnCountsModel", "say", "(I)I"⟩ ⟨"TurnCountsModel", "say", "(I)I"⟩ ∈ tg := List.mem_filter.mpr ⟨List.mem_append_right _ (List.mem_append_right _ (List.mem_append_right _ (List.mem_append_left _ (List.mem_of_getElem? (i := 156) (by decide +kernel))))), by decide +kernel⟩
theorem tb_637 : Cond.code ⟨"TurnCountsModel", "say", "(I)I"⟩ prog_9_method_21_code 2 (Option.some FieldType.int) ∈ tg := List.mem_filter.mpr ⟨List.mem_append_right _ (List.mem_append_right _ (List.mem_append_right _ (List.mem_append_left _ (List.mem_of_getElem? (i := 157) (by decide +kernel))))), by decide +kernel⟩
theorem tb_638 : Cond.methodLink "TurnCountsLaw" 39 ⟨"TurnCountsModel", "wipe", "()I"⟩ ∈ tg := List.mem_filter.mpr ⟨List.mem_append_right _ (List.mem_append_right _ (List.mem_append_right _ (List.mem_append_left _ (List.mem_of_getElem? (i := 158) (by decide +kernel))))), by decide +kernel⟩
theorem tb_639 : Cond.instanceMethod ⟨"TurnCountsModel", "wipe", "()I"⟩ ∈ tg := List.mem_filter.mpr ⟨List.mem_append_right _ (List.mem_append_right _ (List.mem_append_right _ (List.mem_append_left _ (List.mem_of_getElem? (i := 159) (by decide +kernel))))), by decide +kernel⟩
theorem tb_640 : Cond.selects "TurnCountsModel" ⟨"TurnCountsModel", "wipe", "()I"⟩ ⟨"TurnCountsModel", "wipe", "()I"⟩ ∈ tg := List.mem_filter.mpr ⟨List.mem_append_right _ (List.mem_append_right _ (List.mem_append_right _ (List.mem_append_left _ (List.mem_of_getElem? (i := 160) (by decide +kernel))))), by decide +kernel⟩
theorem tb_641 : Cond.code ⟨"TurnCountsModel", "wipe", "()I"⟩ prog_9_method_22_code 2 (Option.some FieldType.int) ∈ tg := List.mem_filter.mpr ⟨List.mem_append_right _ (List.mem_append_right _ (List.mem_append_right _ (List.mem_append_left _ (List.mem_of_getElem? (i := 161) (by decide +kernel))))), by decide +kernel⟩
theorem tb_642 : Cond.methodLink "TurnCountsLaw" 31 ⟨"TurnCountsModel", "join", "()I"⟩ ∈ tg := List.mem_filter.mpr ⟨List.mem_append_right _ (List.mem_append_right _ (List.mem_append_right _ (List.mem_append_left _ (List.mem_of_getElem? (i := 162) (by decide +kernel))))), by decide +kernel⟩
theorem tb_643 : Cond.instanceMethod ⟨"TurnCountsModel", "join", "()I"⟩ ∈ tg := List.mem_filter.mpr ⟨List.mem_append_right _ (List.mem_append_right _ (List.mem_append_right _ (List.mem_append_left _ (List.mem_of_getElem? (i := 163) (by decide +kernel))))), by decide +kernel⟩
theorem tb_644 : Cond.selects "TurnCountsModel" ⟨"TurnCountsModel", "join", "()I"⟩ ⟨"TurnCountsModel", "join", "()I"⟩ ∈ tg := List.mem_filter.mpr ⟨List.mem_append_right _ (List.mem_append_right _ (List.mem_append_right _ (List.mem_append_left _ (List.mem_of_getElem? (i := 164) (by decide +kernel))))), by decide +kernel⟩
theorem tb_645 : Cond.code ⟨"TurnCountsModel", "join", "()I"⟩ prog_9_method_24_code 3 (Option.some FieldType.int) ∈ tg := List.mem_filter.mpr ⟨List.mem_append_right _ (List.mem_append_right _ (List.mem_append_right _ (List.mem_append_left _ (List.mem_of_getElem? (i := 165) (by decide +kernel))))), by decide +kernel⟩
theorem tb_646 : Cond.methodLink "TurnCountsModel" 133 ⟨"TurnCountsModel", "layPad", "()Z"⟩ ∈ tg := List.mem_filter.mpr ⟨List.mem_append_right _ (List.mem_append_right _ (List.mem_append_right _ (List.mem_append_left _ (List.mem_of_getElem? (i := 166) (by decide +kernel))))), by decide +kernel⟩
theorem tb_648 : Cond.instanceMethod ⟨"TurnCountsModel", "layPad", "()Z"⟩ ∈ tg := List.mem_filter.mpr ⟨List.mem_append_right _ (List.mem_append_right _ (List.mem_append_right _ (List.mem_append_left _ (List.mem_of_getElem? (i := 168) (by decide +kernel))))), by decide +kernel⟩
theorem tb_649 : Cond.code ⟨"TurnCountsModel", "layPad", "()Z"⟩ prog_9_method_23_code 4 (Option.some FieldType.boolean) ∈ tg := List.mem_filter.mpr ⟨List.mem_append_right _ (List.mem_append_right _ (List.mem_append_right _ (List.mem_append_left _ (List.mem_of_getElem? (i := 169) (by decide +kernel))))), by decide +kernel⟩
theorem tb_650 : Cond.methodLink "TurnCountsLaw" 43 ⟨"TurnCountsModel", "turn", "(I)I"⟩ ∈ tg := List.mem_filter.mpr ⟨List.mem_append_right _ (List.mem_append_right _ (List.mem_append_right _ (List.mem_append_left _ (List.mem_of_getElem? (i := 170) (by decide +kernel))))), by decide +kernel⟩
theorem tb_651 : Cond.instanceMethod ⟨"TurnCountsModel", "turn", "(I)I"⟩ ∈ tg := List.mem_filter.mpr ⟨List.mem_append_right _ (List.mem_append_right _ (List.mem_append_right _ (List.mem_append_left _ (List.mem_of_getElem? (i := 171) (by decide +kernel))))), by decide +kernel⟩
theorem tb_652 : Cond.selects "TurnCountsModel" ⟨"TurnCountsModel", "turn", "(I)I"⟩ ⟨"TurnCountsModel", "turn", "(I)I"⟩ ∈ tg := List.mem_filter.mpr ⟨List.mem_append_right _ (List.mem_append_right _ (List.mem_append_right _ (List.mem_append_left _ (List.mem_of_getElem? (i := 172) (by decide +kernel))))), by decide +kernel⟩
theorem tb_653 : Cond.code ⟨"TurnCountsModel", "turn", "(I)I"⟩ prog_9_method_28_code 2 (Option.some FieldType.int) ∈ tg := List.mem_filter.mpr ⟨List.mem_append_right _ (List.mem_append_right _ (List.mem_append_right _ (List.mem_append_left _ (List.mem_of_getElem? (i := 173) (by decide +kernel))))), by decide +kernel⟩
theorem tb_654 : Cond.methodLink "TurnCountsModel" 141 ⟨"TurnCountsModel", "typeOfRow", "()I"⟩ ∈ tg := List.mem_filter.mpr ⟨List.mem_append_right _ (List.mem_append_right _ (List.mem_append_right _ (List.mem_append_left _ (List.mem_of_getElem? (i := 174) (by decide +kernel))))), by decide +kernel⟩
theorem tb_656 : Cond.instanceMethod ⟨"TurnCountsModel", "typeOfRow", "()I"⟩ ∈ tg := List.mem_filter.mpr ⟨List.mem_append_right _ (List.mem_append_right _ (List.mem_append_right _ (List.mem_append_left _ (List.mem_of_getElem? (i := 176) (by decide +kernel))))), by decide +kernel⟩
theorem tb_657 : Cond.code ⟨"TurnCountsModel", "typeOfRow", "()I"⟩ prog_9_method_25_code 5 (Option.some FieldType.int) ∈ tg := List.mem_filter.mpr ⟨List.mem_append_right _ (List.mem_append_right _ (List.mem_append_right _ (List.mem_append_left _ (List.mem_of_getElem? (i := 177) (by decide +kernel))))), by decide +kernel⟩
theorem tb_658 : Cond.methodLink "TurnCountsModel" 144 ⟨"TurnCountsModel", "orderOf", "(I)I"⟩ ∈ tg := List.mem_filter.mpr ⟨List.mem_append_right _ (List.mem_append_right _ (List.mem_append_right _ (List.mem_append_left _ (List.mem_of_getElem? (i := 178) (by decide +kernel))))), by decide +kernel⟩
theorem tb_659 : Cond.static ⟨"TurnCountsModel", "orderOf", "(I)I"⟩ ∈ tg := List.mem_filter.mpr ⟨List.mem_append_right _ (List.mem_append_right _ (List.mem_append_right _ (List.mem_append_left _ (List.mem_of_getElem? (i := 179) (by decide +kernel))))), by decide +kernel⟩
theorem tb_660 : Cond.code ⟨"TurnCountsModel", "orderOf", "(I)I"⟩ prog_9_method_27_code 3 (Option.some FieldType.int) ∈ tg := List.mem_filter.mpr ⟨List.mem_append_right _ (List.mem_append_right _ (List.mem_append_right _ (List.mem_append_left _ (List.mem_of_getElem? (i := 180) (by decide +kernel))))), by decide +kernel⟩
theorem tb_661 : Cond.methodLink "TurnCountsModel" 137 ⟨"TurnCountsModel", "common", "(II)I"⟩ ∈ tg := List.mem_filter.mpr ⟨List.mem_append_right _ (List.mem_append_right _ (List.mem_append_right _ (List.mem_append_left _ (List.mem_of_getElem? (i := 181) (by decide +kernel))))), by decide +kernel⟩
theorem tb_662 : Cond.static ⟨"TurnCountsModel", "common", "(II)I"⟩ ∈ tg := List.mem_filter.mpr ⟨List.mem_append_right _ (List.mem_append_right _ (List.mem_append_right _ (List.mem_append_left _ (List.mem_of_getElem? (i := 182) (by decide +kernel))))), by decide +kernel⟩
theorem tb_663 : Cond.code ⟨"TurnCountsModel", "common", "(II)I"⟩ prog_9_method_26_code 5 (Option.some FieldType.int) ∈ tg := List.mem_filter.mpr ⟨List.mem_append_right _ (List.mem_append_right _ (List.mem_append_right _ (List.mem_append_left _ (List.mem_of_getElem? (i := 183) (by decide +kernel))))), by decide +kernel⟩
theorem tb_664 : Cond.methodLink "TurnCountsLaw" 48 ⟨"TurnCountsModel", "type", "(II)I"⟩ ∈ tg := List.mem_filter.mpr ⟨List.mem_append_right _ (List.mem_append_right _ (List.mem_append_right _ (List.mem_append_left _ (List.mem_of_getElem? (i := 184) (by decide +kernel))))), by decide +kernel⟩
theorem tb_665 : Cond.instanceMethod ⟨"TurnCountsModel", "type", "(II)I"⟩ ∈ tg := List.mem_filter.mpr ⟨List.mem_append_right _ (List.mem_append_right _ (List.mem_append_right _ (List.mem_append_left _ (List.mem_of_getElem? (i := 185) (by decide +kernel))))), by decide +kernel⟩
theorem tb_666 : Cond.selects "TurnCountsModel" ⟨"TurnCountsModel", "type", "(II)I"⟩ ⟨"TurnCountsModel", "type", "(II)I"⟩ ∈ tg := List.mem_filter.mpr ⟨List.mem_append_right _ (List.mem_append_right _ (List.mem_append_right _ (List.mem_append_left _ (List.mem_of_getElem? (i := 186) (by decide +kernel))))), by decide +kernel⟩
theorem tb_667 : Cond.code ⟨"TurnCountsModel", "type", "(II)I"⟩ prog_9_method_32_code 3 (Option.some FieldType.int) ∈ tg := List.mem_filter.mpr ⟨List.mem_append_right _ (List.mem_append_right _ (List.mem_append_right _ (List.mem_append_left _ (List.mem_of_getElem? (i := 187) (by decide +kernel))))), by decide +kernel⟩
theorem tb_668 : Cond.methodLink "TurnCountsModel" 157 ⟨"TurnCountsModel", "layTypes", "()V"⟩ ∈ tg := List.mem_filter.mpr ⟨List.mem_append_right _ (List.mem_append_right _ (List.mem_append_right _ (List.mem_append_left _ (List.mem_of_getElem? (i := 188) (by decide +kernel))))), by decide +kernel⟩
theorem tb_670 : Cond.instanceMethod ⟨"TurnCountsModel", "layTypes", "()V"⟩ ∈ tg := List.mem_filter.mpr ⟨List.mem_append_right _ (List.mem_append_right _ (List.mem_append_right _ (List.mem_append_left _ (List.mem_of_getElem? (i := 190) (by decide +kernel))))), by decide +kernel⟩
theorem tb_671 : Cond.code ⟨"TurnCountsModel", "layTypes", "()V"⟩ prog_9_method_31_code 2 (Option.none : Option FieldType) ∈ tg := List.mem_filter.mpr ⟨List.mem_append_right _ (List.mem_append_right _ (List.mem_append_right _ (List.mem_append_left _ (List.mem_of_getElem? (i := 191) (by decide +kernel))))), by decide +kernel⟩
theorem tb_672 : Cond.methodLink "TurnCountsModel" 151 ⟨"TurnCountsModel", "layTurn", "(I)V"⟩ ∈ tg := List.mem_filter.mpr ⟨List.mem_append_right _ (List.mem_append_right _ (List.mem_append_right _ (List.mem_append_left _ (List.mem_of_getElem? (i := 192) (by decide +kernel))))), by decide +kernel⟩
theorem tb_674 : Cond.instanceMethod ⟨"TurnCountsModel", "layTurn", "(I)V"⟩ ∈ tg := List.mem_filter.mpr ⟨List.mem_append_right _ (List.mem_append_right _ (List.mem_append_right _ (List.mem_append_left _ (List.mem_of_getElem? (i := 194) (by decide +kernel))))), by decide +kernel⟩
theorem tb_675 : Cond.code ⟨"TurnCountsModel", "layTurn", "(I)V"⟩ prog_9_method_30_code 3 (Option.none : Option FieldType) ∈ tg := List.mem_filter.mpr ⟨List.mem_append_right _ (List.mem_append_right _ (List.mem_append_right _ (List.mem_append_left _ (List.mem_of_getElem? (i := 195) (by decide +kernel))))), by decide +kernel⟩
theorem tb_676 : Cond.methodLink "TurnCountsModel" 154 ⟨"TurnCountsModel", "addType", "(I)V"⟩ ∈ tg := List.mem_filter.mpr ⟨List.mem_append_right _ (List.mem_append_right _ (List.mem_append_right _ (List.mem_append_left _ (List.mem_of_getElem? (i := 196) (by decide +kernel))))), by decide +kernel⟩
theorem tb_678 : Cond.instanceMethod ⟨"TurnCountsModel", "addType", "(I)V"⟩ ∈ tg := List.mem_filter.mpr ⟨List.mem_append_right _ (List.mem_append_right _ (List.mem_append_right _ (List.mem_append_left _ (List.mem_of_getElem? (i := 198) (by decide +kernel))))), by decide +kernel⟩
theorem tb_679 : Cond.code ⟨"TurnCountsModel", "addType", "(I)V"⟩ prog_9_method_29_code 4 (Option.none : Option FieldType) ∈ tg := List.mem_filter.mpr ⟨List.mem_append_right _ (List.mem_append_right _ (List.mem_append_right _ (List.mem_append_left _ (List.mem_of_getElem? (i := 199) (by decide +kernel))))), by decide +kernel⟩
theorem tb_680 : Cond.methodLink "TurnCountsLaw" 52 ⟨"TurnCountsModel", "orbit", "(II)I"⟩ ∈ tg := List.mem_filter.mpr ⟨List.mem_append_right _ (List.mem_append_right _ (List.mem_append_right _ (List.mem_append_left _ (List.mem_of_getElem? (i := 200) (by decide +kernel))))), by decide +kernel⟩
theorem tb_681 : Cond.instanceMethod ⟨"TurnCountsModel", "orbit", "(II)I"⟩ ∈ tg := List.mem_filter.mpr ⟨List.mem_append_right _ (List.mem_append_right _ (List.mem_append_right _ (List.mem_append_left _ (List.mem_of_getElem? (i := 201) (by decide +kernel))))), by decide +kernel⟩
theorem tb_682 : Cond.selects "TurnCountsModel" ⟨"TurnCountsModel", "orbit", "(II)I"⟩ ⟨"TurnCountsModel", "orbit", "(II)I"⟩ ∈ tg := List.mem_filter.mpr ⟨List.mem_append_right _ (List.mem_append_right _ (List.mem_append_right _ (List.mem_append_left _ (List.mem_of_getElem? (i := 202) (by decide +kernel))))), by decide +kernel⟩
theorem tb_683 : Cond.code ⟨"TurnCountsModel", "orbit", "(II)I"⟩ prog_9_method_34_code 7 (Option.some FieldType.int) ∈ tg := List.mem_filter.mpr ⟨List.mem_append_right _ (List.mem_append_right _ (List.mem_append_right _ (List.mem_append_left _ (List.mem_of_getElem? (i := 203) (by decide +kernel))))), by decide +kernel⟩
theorem tb_684 : Cond.methodLink "TurnCountsModel" 160 ⟨"TurnCountsModel", "isPoint", "(I)Z"⟩ ∈ tg := List.mem_filter.mpr ⟨List.mem_append_right _ (List.mem_append_right _ (List.mem_append_right _ (List.mem_append_left _ (List.mem_of_getElem? (i := 204) (by decide +kernel))))), by decide +kernel⟩
theorem tb_686 : Cond.instanceMethod ⟨"TurnCountsModel", "isPoint", "(I)Z"⟩ ∈ tg := List.mem_filter.mpr ⟨List.mem_append_right _ (List.mem_append_right _ (List.mem_append_right _ (List.mem_append_left _ (List.mem_of_getElem? (i := 206) (by decide +kernel))))), by decide +kernel⟩
theorem tb_687 : Cond.code ⟨"TurnCountsModel", "isPoint", "(I)Z"⟩ prog_9_method_33_code 2 (Option.some FieldType.boolean) ∈ tg := List.mem_filter.mpr ⟨List.mem_append_right _ (List.mem_append_right _ (List.mem_append_right _ (List.mem_append_left _ (List.mem_of_getElem? (i := 207) (by decide +kernel))))), by decide +kernel⟩
theorem tb_688 : Cond.methodLink "TurnCountsLaw" 56 ⟨"TurnCountsModel", "sorts", "(I)I"⟩ ∈ tg := List.mem_filter.mpr ⟨List.mem_append_right _ (List.mem_append_right _ (List.mem_append_right _ (List.mem_append_left _ (List.mem_of_getElem? (i := 208) (by decide +kernel))))), by decide +kernel⟩
theorem tb_689 : Cond.instanceMethod ⟨"TurnCountsModel", "sorts", "(I)I"⟩ ∈ tg := List.mem_filter.mpr ⟨List.mem_append_right _ (List.mem_append_right _ (List.mem_append_right _ (List.mem_append_left _ (List.mem_of_getElem? (i := 209) (by decide +kernel))))), by decide +kernel⟩
theorem tb_690 : Cond.selects "TurnCountsModel" ⟨"TurnCountsModel", "sorts", "(I)I"⟩ ⟨"TurnCountsModel", "sorts", "(I)I"⟩ ∈ tg := List.mem_filter.mpr ⟨List.mem_append_right _ (List.mem_append_right _ (List.mem_append_right _ (List.mem_append_left _ (List.mem_of_getElem? (i := 210) (by decide +kernel))))), by decide +kernel⟩
theorem tb_691 : Cond.code ⟨"TurnCountsModel", "sorts", "(I)I"⟩ prog_9_method_43_code 3 (Option.some FieldType.int) ∈ tg := List.mem_filter.mpr ⟨List.mem_append_right _ (List.mem_append_right _ (List.mem_append_right _ (List.mem_append_left _ (List.mem_of_getElem? (i := 211) (by decide +kernel))))), by decide +kernel⟩
theorem tb_692 : Cond.methodLink "TurnCountsLaw" 60 ⟨"TurnCountsModel", "weight", "(II)I"⟩ ∈ tg := List.mem_filter.mpr ⟨List.mem_append_right _ (List.mem_append_right _ (List.mem_append_right _ (List.mem_append_left _ (List.mem_of_getElem? (i := 212) (by decide +kernel))))), by decide +kernel⟩
theorem tb_693 : Cond.instanceMethod ⟨"TurnCountsModel", "weight", "(II)I"⟩ ∈ tg := List.mem_filter.mpr ⟨List.mem_append_right _ (List.mem_append_right _ (List.mem_append_right _ (List.mem_append_left _ (List.mem_of_getElem? (i := 213) (by decide +kernel))))), by decide +kernel⟩
theorem tb_694 : Cond.selects "TurnCountsModel" ⟨"TurnCountsModel", "weight", "(II)I"⟩ ⟨"TurnCountsModel", "weight", "(II)I"⟩ ∈ tg := List.mem_filter.mpr ⟨List.mem_append_right _ (List.mem_append_right _ (List.mem_append_right _ (List.mem_append_left _ (List.mem_of_getElem? (i := 214) (by decide +kernel))))), by decide +kernel⟩
theorem tb_695 : Cond.code ⟨"TurnCountsModel", "weight", "(II)I"⟩ prog_9_method_44_code 4 (Option.some FieldType.int) ∈ tg := List.mem_filter.mpr ⟨List.mem_append_right _ (List.mem_append_right _ (List.mem_append_right _ (List.mem_append_left _ (List.mem_of_getElem? (i := 215) (by decide +kernel))))), by decide +kernel⟩
theorem tb_696 : Cond.methodLink "TurnCountsLaw" 64 ⟨"TurnCountsModel", "patterns", "(I)I"⟩ ∈ tg := List.mem_filter.mpr ⟨List.mem_append_right _ (List.mem_append_right _ (List.mem_append_right _ (List.mem_append_left _ (List.mem_of_getElem? (i := 216) (by decide +kernel))))), by decide +kernel⟩
theorem tb_697 : Cond.instanceMethod ⟨"TurnCountsModel", "patterns", "(I)I"⟩ ∈ tg := List.mem_filter.mpr ⟨List.mem_append_right _ (List.mem_append_right _ (List.mem_append_right _ (List.mem_append_left _ (List.mem_of_getElem? (i := 217) (by decide +kernel))))), by decide +kernel⟩
theorem tb_698 : Cond.selects "TurnCountsModel" ⟨"TurnCountsModel", "patterns", "(I)I"⟩ ⟨"TurnCountsModel", "patterns", "(I)I"⟩ ∈ tg := List.mem_filter.mpr ⟨List.mem_append_right _ (List.mem_append_right _ (List.mem_append_right _ (List.mem_append_left _ (List.mem_of_getElem? (i := 218) (by decide +kernel))))), by decide +kernel⟩
theorem tb_699 : Cond.code ⟨"TurnCountsModel", "patterns", "(I)I"⟩ prog_9_method_45_code 4 (Option.some FieldType.int) ∈ tg := List.mem_filter.mpr ⟨List.mem_append_right _ (List.mem_append_right _ (List.mem_append_right _ (List.mem_append_left _ (List.mem_of_getElem? (i := 219) (by decide +kernel))))), by decide +kernel⟩
theorem tb_700 : Cond.methodLink "TurnCountsModel" 181 ⟨"TurnCountsModel", "layPatterns", "()V"⟩ ∈ tg := List.mem_filter.mpr ⟨List.mem_append_right _ (List.mem_append_right _ (List.mem_append_right _ (List.mem_append_left _ (List.mem_of_getElem? (i := 220) (by decide +kernel))))), by decide +kernel⟩
theorem tb_702 : Cond.instanceMethod ⟨"TurnCountsModel", "layPatterns", "()V"⟩ ∈ tg := List.mem_filter.mpr ⟨List.mem_append_right _ (List.mem_append_right _ (List.mem_append_right _ (List.mem_append_left _ (List.mem_of_getElem? (i := 222) (by decide +kernel))))), by decide +kernel⟩
theorem tb_703 : Cond.code ⟨"TurnCountsModel", "layPatterns", "()V"⟩ prog_9_method_38_code 2 (Option.none : Option FieldType) ∈ tg := List.mem_filter.mpr ⟨List.mem_append_right _ (List.mem_append_right _ (List.mem_append_right _ (List.mem_append_left _ (List.mem_of_getElem? (i := 223) (by decide +kernel))))), by decide +kernel⟩
theorem tb_704 : Cond.methodLink "TurnCountsModel" 166 ⟨"TurnCountsModel", "layWorths", "()V"⟩ ∈ tg := List.mem_filter.mpr ⟨List.mem_append_right _ (List.mem_append_right _ (List.mem_append_right _ (List.mem_append_left _ (List.mem_of_getElem? (i := 224) (by decide +kernel))))), by decide +kernel⟩
theorem tb_706 : Cond.instanceMethod ⟨"TurnCountsModel", "layWorths", "()V"⟩ ∈ tg := List.mem_filter.mpr ⟨List.mem_append_right _ (List.mem_append_right _ (List.mem_append_right _ (List.mem_append_left _ (List.mem_of_getElem? (i := 226) (by decide +kernel))))), by decide +kernel⟩
theorem tb_707 : Cond.code ⟨"TurnCountsModel", "layWorths", "()V"⟩ prog_9_method_36_code 3 (Option.none : Option FieldType) ∈ tg := List.mem_filter.mpr ⟨List.mem_append_right _ (List.mem_append_right _ (List.mem_append_right _ (List.mem_append_left _ (List.mem_of_getElem? (i := 227) (by decide +kernel))))), by decide +kernel⟩
theorem tb_708 : Cond.methodLink "TurnCountsModel" 172 ⟨"TurnCountsModel", "strike", "(I)V"⟩ ∈ tg := List.mem_filter.mpr ⟨List.mem_append_right _ (List.mem_append_right _ (List.mem_append_right _ (List.mem_append_left _ (List.mem_of_getElem? (i := 228) (by decide +kernel))))), by decide +kernel⟩
theorem tb_710 : Cond.instanceMethod ⟨"TurnCountsModel", "strike", "(I)V"⟩ ∈ tg := List.mem_filter.mpr ⟨List.mem_append_right _ (List.mem_append_right _ (List.mem_append_right _ (List.mem_append_left _ (List.mem_of_getElem? (i := 230) (by decide +kernel))))), by decide +kernel⟩
theorem tb_711 : Cond.code ⟨"TurnCountsModel", "strike", "(I)V"⟩ prog_9_method_39_code 4 (Option.none : Option FieldType) ∈ tg := List.mem_filter.mpr ⟨List.mem_append_right _ (List.mem_append_right _ (List.mem_append_right _ (List.mem_append_left _ (List.mem_of_getElem? (i := 231) (by decide +kernel))))), by decide +kernel⟩
theorem tb_712 : Cond.methodLink "TurnCountsModel" 175 ⟨"TurnCountsModel", "layColours", "(I)V"⟩ ∈ tg := List.mem_filter.mpr ⟨List.mem_append_right _ (List.mem_append_right _ (List.mem_append_right _ (List.mem_append_left _ (List.mem_of_getElem? (i := 232) (by decide +kernel))))), by decide +kernel⟩
theorem tb_714 : Cond.instanceMethod ⟨"TurnCountsModel", "layColours", "(I)V"⟩ ∈ tg := List.mem_filter.mpr ⟨List.mem_append_right _ (List.mem_append_right _ (List.mem_append_right _ (List.mem_append_left _ (List.mem_of_getElem? (i := 234) (by decide +kernel))))), by decide +kernel⟩
theorem tb_715 : Cond.code ⟨"TurnCountsModel", "layColours", "(I)V"⟩ prog_9_method_35_code 4 (Option.none : Option FieldType) ∈ tg := List.mem_filter.mpr ⟨List.mem_append_right _ (List.mem_append_right _ (List.mem_append_right _ (List.mem_append_left _ (List.mem_of_getElem? (i := 235) (by decide +kernel))))), by decide +kernel⟩
theorem tb_716 : Cond.methodLink "TurnCountsModel" 178 ⟨"TurnCountsModel", "turned", "(I)I"⟩ ∈ tg := List.mem_filter.mpr ⟨List.mem_append_right _ (List.mem_append_right _ (List.mem_append_right _ (List.mem_append_left _ (List.mem_of_getElem? (i := 236) (by decide +kernel))))), by decide +kernel⟩
theorem tb_718 : Cond.instanceMethod ⟨"TurnCountsModel", "turned", "(I)I"⟩ ∈ tg := List.mem_filter.mpr ⟨List.mem_append_right _ (List.mem_append_right _ (List.mem_append_right _ (List.mem_append_left _ (List.mem_of_getElem? (i := 238) (by decide +kernel))))), by decide +kernel⟩
theorem tb_719 : Cond.code ⟨"TurnCountsModel", "turned", "(I)I"⟩ prog_9_method_37_code 4 (Option.some FieldType.int) ∈ tg := List.mem_filter.mpr ⟨List.mem_append_right _ (List.mem_append_right _ (List.mem_append_right _ (List.mem_append_left _ (List.mem_of_getElem? (i := 239) (by decide +kernel))))), by decide +kernel⟩
theorem tb_720 : Cond.methodLink "TurnCountsModel" 184 ⟨"TurnCountsModel", "weightOf", "(I)I"⟩ ∈ tg := List.mem_filter.mpr ⟨List.mem_append_right _ (List.mem_append_right _ (List.mem_append_right _ (List.mem_append_right _ (List.mem_of_getElem? (i := 0) (by decide +kernel))))), by decide +kernel⟩
theorem tb_722 : Cond.instanceMethod ⟨"TurnCountsModel", "weightOf", "(I)I"⟩ ∈ tg := List.mem_filter.mpr ⟨List.mem_append_right _ (List.mem_append_right _ (List.mem_append_right _ (List.mem_append_right _ (List.mem_of_getElem? (i := 2) (by decide +kernel))))), by decide +kernel⟩
theorem tb_723 : Cond.code ⟨"TurnCountsModel", "weightOf", "(I)I"⟩ prog_9_method_40_code 4 (Option.some FieldType.int) ∈ tg := List.mem_filter.mpr ⟨List.mem_append_right _ (List.mem_append_right _ (List.mem_append_right _ (List.mem_append_right _ (List.mem_of_getElem? (i := 3) (by decide +kernel))))), by decide +kernel⟩
theorem tb_724 : Cond.methodLink "TurnCountsLaw" 68 ⟨"TurnCountsModel", "pattern", "(II)I"⟩ ∈ tg := List.mem_filter.mpr ⟨List.mem_append_right _ (List.mem_append_right _ (List.mem_append_right _ (List.mem_append_right _ (List.mem_of_getElem? (i := 4) (by decide +kernel))))), by decide +kernel⟩
theorem tb_725 : Cond.instanceMethod ⟨"TurnCountsModel", "pattern", "(II)I"⟩ ∈ tg := List.mem_filter.mpr ⟨List.mem_append_right _ (List.mem_append_right _ (List.mem_append_right _ (List.mem_append_right _ (List.mem_of_getElem? (i := 5) (by decide +kernel))))), by decide +kernel⟩
theorem tb_726 : Cond.selects "TurnCountsModel" ⟨"TurnCountsModel", "pattern", "(II)I"⟩ ⟨"TurnCountsModel", "pattern", "(II)I"⟩ ∈ tg := List.mem_filter.mpr ⟨List.mem_append_right _ (List.mem_append_right _ (List.mem_append_right _ (List.mem_append_right _ (List.mem_of_getElem? (i := 6) (by decide +kernel))))), by decide +kernel⟩
theorem tb_727 : Cond.code ⟨"TurnCountsModel", "pattern", "(II)I"⟩ prog_9_method_47_code 3 (Option.some FieldType.int) ∈ tg := List.mem_filter.mpr ⟨List.mem_append_right _ (List.mem_append_right _ (List.mem_append_right _ (List.mem_append_right _ (List.mem_of_getElem? (i := 7) (by decide +kernel))))), by decide +kernel⟩
theorem tb_728 : Cond.methodLink "TurnCountsModel" 190 ⟨"TurnCountsModel", "twin", "(I)I"⟩ ∈ tg := List.mem_filter.mpr ⟨List.mem_append_right _ (List.mem_append_right _ (List.mem_append_right _ (List.mem_append_right _ (List.mem_of_getElem? (i := 8) (by decide +kernel))))), by decide +kernel⟩
theorem tb_730 : Cond.instanceMethod ⟨"TurnCountsModel", "twin", "(I)I"⟩ ∈ tg := List.mem_filter.mpr ⟨List.mem_append_right _ (List.mem_append_right _ (List.mem_append_right _ (List.mem_append_right _ (List.mem_of_getElem? (i := 10) (by decide +kernel))))), by decide +kernel⟩
theorem tb_731 : Cond.code ⟨"TurnCountsModel", "twin", "(I)I"⟩ prog_9_method_46_code 2 (Option.some FieldType.int) ∈ tg := List.mem_filter.mpr ⟨List.mem_append_right _ (List.mem_append_right _ (List.mem_append_right _ (List.mem_append_right _ (List.mem_of_getElem? (i := 11) (by decide +kernel))))), by decide +kernel⟩
theorem tb_732 : Cond.methodLink "TurnCountsModel" 187 ⟨"TurnCountsModel", "mirrored", "(I)I"⟩ ∈ tg := List.mem_filter.mpr ⟨List.mem_append_right _ (List.mem_append_right _ (List.mem_append_right _ (List.mem_append_right _ (List.mem_of_getElem? (i := 12) (by decide +kernel))))), by decide +kernel⟩
theorem tb_734 : Cond.instanceMethod ⟨"TurnCountsModel", "mirrored", "(I)I"⟩ ∈ tg := List.mem_filter.mpr ⟨List.mem_append_right _ (List.mem_append_right _ (List.mem_append_right _ (List.mem_append_right _ (List.mem_of_getElem? (i := 14) (by decide +kernel))))), by decide +kernel⟩
theorem tb_735 : Cond.code ⟨"TurnCountsModel", "mirrored", "(I)I"⟩ prog_9_method_42_code 4 (Option.some FieldType.int) ∈ tg := List.mem_filter.mpr ⟨List.mem_append_right _ (List.mem_append_right _ (List.mem_append_right _ (List.mem_append_right _ (List.mem_of_getElem? (i := 15) (by decide +kernel))))), by decide +kernel⟩
theorem tb_736 : Cond.methodLink "TurnCountsModel" 193 ⟨"TurnCountsModel", "coloursOf", "(I)I"⟩ ∈ tg := List.mem_filter.mpr ⟨List.mem_append_right _ (List.mem_append_right _ (List.mem_append_right _ (List.mem_append_right _ (List.mem_of_getElem? (i := 16) (by decide +kernel))))), by decide +kernel⟩
theorem tb_738 : Cond.instanceMethod ⟨"TurnCountsModel", "coloursOf", "(I)I"⟩ ∈ tg := List.mem_filter.mpr ⟨List.mem_append_right _ (List.mem_append_right _ (List.mem_append_right _ (List.mem_append_right _ (List.mem_of_getElem? (i := 18) (by decide +kernel))))), by decide +kernel⟩
theorem tb_739 : Cond.code ⟨"TurnCountsModel", "coloursOf", "(I)I"⟩ prog_9_method_41_code 4 (Option.some FieldType.int) ∈ tg := List.mem_filter.mpr ⟨List.mem_append_right _ (List.mem_append_right _ (List.mem_append_right _ (List.mem_append_right _ (List.mem_of_getElem? (i := 19) (by decide +kernel))))), by decide +kernel⟩
theorem tb_740 : Cond.methodLink "TurnCountsLaw" 72 ⟨"TurnCountsModel", "of", "(II)I"⟩ ∈ tg := List.mem_filter.mpr ⟨List.mem_append_right _ (List.mem_append_right _ (List.mem_append_right _ (List.mem_append_right _ (List.mem_of_getElem? (i := 20) (by decide +kernel))))), by decide +kernel⟩
theorem tb_741 : Cond.instanceMethod ⟨"TurnCountsModel", "of", "(II)I"⟩ ∈ tg := List.mem_filter.mpr ⟨List.mem_append_right _ (List.mem_append_right _ (List.mem_append_right _ (List.mem_append_right _ (List.mem_of_getElem? (i := 21) (by decide +kernel))))), by decide +kernel⟩
theorem tb_742 : Cond.selects "TurnCountsModel" ⟨"TurnCountsModel", "of", "(II)I"⟩ ⟨"TurnCountsModel", "of", "(II)I"⟩ ∈ tg := List.mem_filter.mpr ⟨List.mem_append_right _ (List.mem_append_right _ (List.mem_append_right _ (List.mem_append_right _ (List.mem_of_getElem? (i := 22) (by decide +kernel))))), by decide +kernel⟩
theorem tb_743 : Cond.code ⟨"TurnCountsModel", "of", "(II)I"⟩ prog_9_method_49_code 4 (Option.some FieldType.int) ∈ tg := List.mem_filter.mpr ⟨List.mem_append_right _ (List.mem_append_right _ (List.mem_append_right _ (List.mem_append_right _ (List.mem_of_getElem? (i := 23) (by decide +kernel))))), by decide +kernel⟩
theorem tb_744 : Cond.methodLink "TurnCountsModel" 196 ⟨"TurnCountsModel", "isNumber", "(I)Z"⟩ ∈ tg := List.mem_filter.mpr ⟨List.mem_append_right _ (List.mem_append_right _ (List.mem_append_right _ (List.mem_append_right _ (List.mem_of_getElem? (i := 24) (by decide +kernel))))), by decide +kernel⟩
theorem tb_746 : Cond.instanceMethod ⟨"TurnCountsModel", "isNumber", "(I)Z"⟩ ∈ tg := List.mem_filter.mpr ⟨List.mem_append_right _ (List.mem_append_right _ (List.mem_append_right _ (List.mem_append_right _ (List.mem_of_getElem? (i := 26) (by decide +kernel))))), by decide +kernel⟩
theorem tb_747 : Cond.code ⟨"TurnCountsModel", "isNumber", "(I)Z"⟩ prog_9_method_48_code 2 (Option.some FieldType.boolean) ∈ tg := List.mem_filter.mpr ⟨List.mem_append_right _ (List.mem_append_right _ (List.mem_append_right _ (List.mem_append_right _ (List.mem_of_getElem? (i := 27) (by decide +kernel))))), by decide +kernel⟩
theorem tb_748 : Cond.methodLink "TurnCountsLaw" 76 ⟨"TurnCountsModel", "kinds", "(I)I"⟩ ∈ tg := List.mem_filter.mpr ⟨List.mem_append_right _ (List.mem_append_right _ (List.mem_append_right _ (List.mem_append_right _ (List.mem_of_getElem? (i := 28) (by decide +kernel))))), by decide +kernel⟩
theorem tb_749 : Cond.instanceMethod ⟨"TurnCountsModel", "kinds", "(I)I"⟩ ∈ tg := List.mem_filter.mpr ⟨List.mem_append_right _ (List.mem_append_right _ (List.mem_append_right _ (List.mem_append_right _ (List.mem_of_getElem? (i := 29) (by decide +kernel))))), by decide +kernel⟩
theorem tb_750 : Cond.selects "TurnCountsModel" ⟨"TurnCountsModel", "kinds", "(I)I"⟩ ⟨"TurnCountsModel", "kinds", "(I)I"⟩ ∈ tg := List.mem_filter.mpr ⟨List.mem_append_right _ (List.mem_append_right _ (List.mem_append_right _ (List.mem_append_right _ (List.mem_of_getElem? (i := 30) (by decide +kernel))))), by decide +kernel⟩
theorem tb_751 : Cond.code ⟨"TurnCountsModel", "kinds", "(I)I"⟩ prog_9_method_51_code 5 (Option.some FieldType.int) ∈ tg := List.mem_filter.mpr ⟨List.mem_append_right _ (List.mem_append_right _ (List.mem_append_right _ (List.mem_append_right _ (List.mem_of_getElem? (i := 31) (by decide +kernel))))), by decide +kernel⟩
theorem tb_752 : Cond.methodLink "TurnCountsModel" 199 ⟨"TurnCountsModel", "isOf", "(II)Z"⟩ ∈ tg := List.mem_filter.mpr ⟨List.mem_append_right _ (List.mem_append_right _ (List.mem_append_right _ (List.mem_append_right _ (List.mem_of_getElem? (i := 32) (by decide +kernel))))), by decide +kernel⟩
theorem tb_754 : Cond.instanceMethod ⟨"TurnCountsModel", "isOf", "(II)Z"⟩ ∈ tg := List.mem_filter.mpr ⟨List.mem_append_right _ (List.mem_append_right _ (List.mem_append_right _ (List.mem_append_right _ (List.mem_of_getElem? (i := 34) (by decide +kernel))))), by decide +kernel⟩
theorem tb_755 : Cond.code ⟨"TurnCountsModel", "isOf", "(II)Z"⟩ prog_9_method_50_code 3 (Option.some FieldType.boolean) ∈ tg := List.mem_filter.mpr ⟨List.mem_append_right _ (List.mem_append_right _ (List.mem_append_right _ (List.mem_append_right _ (List.mem_of_getElem? (i := 35) (by decide +kernel))))), by decide +kernel⟩
theorem tb_756 : Cond.methodLink "TurnCountsLaw" 80 ⟨"TurnCountsModel", "by", "(II)I"⟩ ∈ tg := List.mem_filter.mpr ⟨List.mem_append_right _ (List.mem_append_right _ (List.mem_append_right _ (List.mem_append_right _ (List.mem_of_getElem? (i := 36) (by decide +kernel))))), by decide +kernel⟩
theorem tb_757 : Cond.instanceMethod ⟨"TurnCountsModel", "by", "(II)I"⟩ ∈ tg := List.mem_filter.mpr ⟨List.mem_append_right _ (List.mem_append_right _ (List.mem_append_right _ (List.mem_append_right _ (List.mem_of_getElem? (i := 37) (by decide +kernel))))), by decide +kernel⟩
theorem tb_758 : Cond.selects "TurnCountsModel" ⟨"TurnCountsModel", "by", "(II)I"⟩ ⟨"TurnCountsModel", "by", "(II)I"⟩ ∈ tg := List.mem_filter.mpr ⟨List.mem_append_right _ (List.mem_append_right _ (List.mem_append_right _ (List.mem_append_right _ (List.mem_of_getElem? (i := 38) (by decide +kernel))))), by decide +kernel⟩
theorem tb_759 : Cond.code ⟨"TurnCountsModel", "by", "(II)I"⟩ prog_9_method_52_code 5 (Option.some FieldType.int) ∈ tg := List.mem_filter.mpr ⟨List.mem_append_right _ (List.mem_append_right _ (List.mem_append_right _ (List.mem_append_right _ (List.mem_of_getElem? (i := 39) (by decide +kernel))))), by decide +kernel⟩
theorem tb_760 : Cond.methodLink "TurnCountsLaw" 84 ⟨"TurnCountsModel", "image", "(I)I"⟩ ∈ tg := List.mem_filter.mpr ⟨List.mem_append_right _ (List.mem_append_right _ (List.mem_append_right _ (List.mem_append_right _ (List.mem_of_getElem? (i := 40) (by decide +kernel))))), by decide +kernel⟩
theorem tb_761 : Cond.instanceMethod ⟨"TurnCountsModel", "image", "(I)I"⟩ ∈ tg := List.mem_filter.mpr ⟨List.mem_append_right _ (List.mem_append_right _ (List.mem_append_right _ (List.mem_append_right _ (List.mem_of_getElem? (i := 41) (by decide +kernel))))), by decide +kernel⟩
theorem tb_762 : Cond.selects "TurnCountsModel" ⟨"TurnCountsModel", "image", "(I)I"⟩ ⟨"TurnCountsModel", "image", "(I)I"⟩ ∈ tg := List.mem_filter.mpr ⟨List.mem_append_right _ (List.mem_append_right _ (List.mem_append_right _ (List.mem_append_right _ (List.mem_of_getElem? (i := 42) (by decide +kernel))))), by decide +kernel⟩
theorem tb_763 : Cond.code ⟨"TurnCountsModel", "image", "(I)I"⟩ prog_9_method_53_code 3 (Option.some FieldType.int) ∈ tg := List.mem_filter.mpr ⟨List.mem_append_right _ (List.mem_append_right _ (List.mem_append_right _ (List.mem_append_right _ (List.mem_of_getElem? (i := 43) (by decide +kernel))))), by decide +kernel⟩
theorem tb_764 : Cond.methodLink "TurnCountsLaw" 88 ⟨"TurnCountsModel", "restore", "(I)I"⟩ ∈ tg := List.mem_filter.mpr ⟨List.mem_append_right _ (List.mem_append_right _ (List.mem_append_right _ (List.mem_append_right _ (List.mem_of_getElem? (i := 44) (by decide +kernel))))), by decide +kernel⟩
theorem tb_765 : Cond.instanceMethod ⟨"TurnCountsModel", "restore", "(I)I"⟩ ∈ tg := List.mem_filter.mpr ⟨List.mem_append_right _ (List.mem_append_right _ (List.mem_append_right _ (List.mem_append_right _ (List.mem_of_getElem? (i := 45) (by decide +kernel))))), by decide +kernel⟩
theorem tb_766 : Cond.selects "TurnCountsModel" ⟨"TurnCountsModel", "restore", "(I)I"⟩ ⟨"TurnCountsModel", "restore", "(I)I"⟩ ∈ tg := List.mem_filter.mpr ⟨List.mem_append_right _ (List.mem_append_right _ (List.mem_append_right _ (List.mem_append_right _ (List.mem_of_getElem? (i := 46) (by decide +kernel))))), by decide +kernel⟩
theorem tb_767 : Cond.code ⟨"TurnCountsModel", "restore", "(I)I"⟩ prog_9_method_54_code 3 (Option.some FieldType.int) ∈ tg := List.mem_filter.mpr ⟨List.mem_append_right _ (List.mem_append_right _ (List.mem_append_right _ (List.mem_append_right _ (List.mem_of_getElem? (i := 47) (by decide +kernel))))), by decide +kernel⟩
theorem tb_768 : Cond.methodLink "TurnCountsLaw" 92 ⟨"TurnCountsModel", "count", "(I)I"⟩ ∈ tg := List.mem_filter.mpr ⟨List.mem_append_right _ (List.mem_append_right _ (List.mem_append_right _ (List.mem_append_right _ (List.mem_of_getElem? (i := 48) (by decide +kernel))))), by decide +kernel⟩
theorem tb_769 : Cond.instanceMethod ⟨"TurnCountsModel", "count", "(I)I"⟩ ∈ tg := List.mem_filter.mpr ⟨List.mem_append_right _ (List.mem_append_right _ (List.mem_append_right _ (List.mem_append_right _ (List.mem_of_getElem? (i := 49) (by decide +kernel))))), by decide +kernel⟩
theorem tb_770 : Cond.selects "TurnCountsModel" ⟨"TurnCountsModel", "count", "(I)I"⟩ ⟨"TurnCountsModel", "count", "(I)I"⟩ ∈ tg := List.mem_filter.mpr ⟨List.mem_append_right _ (List.mem_append_right _ (List.mem_append_right _ (List.mem_append_right _ (List.mem_of_getElem? (i := 50) (by decide +kernel))))), by decide +kernel⟩
theorem tb_771 : Cond.code ⟨"TurnCountsModel", "count", "(I)I"⟩ prog_9_method_55_code 2 (Option.some FieldType.int) ∈ tg := List.mem_filter.mpr ⟨List.mem_append_right _ (List.mem_append_right _ (List.mem_append_right _ (List.mem_append_right _ (List.mem_of_getElem? (i := 51) (by decide +kernel))))), by decide +kernel⟩
/-- what the tables say of private members of a nest mate: not among the words, for the machine notes hosts -/
def nW (s : State) : Prop := va_Nw (Cond.methodLinkNest "TurnCounts$Group" 52 ⟨"TurnCounts", "isWithin", "(III)Z"⟩ "TurnCounts") s ∧ va_Nw (Cond.methodLinkNest "TurnCounts$PatternTable" 81 ⟨"TurnCounts", "isWithin", "(III)Z"⟩ "TurnCounts") s ∧ va_Nw (Cond.methodLinkNest "TurnCounts$Setting" 39 ⟨"TurnCounts", "isWithin", "(III)Z"⟩ "TurnCounts") s
theorem nW.warm {s U : State} (hW : s.WarmedH U.vm) (h : nW s) : nW U := ⟨va_Nw.warmM hW h.1, va_Nw.warmM hW h.2.1, va_Nw.warmM hW h.2.2⟩
theorem nW.same {u U : State} (e : u.vm = U.vm) (h : nW u) : nW U := ⟨va_Nw.same rfl e h.1, va_Nw.same rfl e h.2.1, va_Nw.same rfl e h.2.2⟩
theorem nW.of {a : Array Value} {s : State} (h : ∀ w ∈ lw_tbl, w.before a s = true) : nW s := ⟨va_Nw.of rfl (h _ tb_56), va_Nw.of rfl (h _ tb_352), va_Nw.of rfl (h _ tb_374)⟩
theorem nW_0 {s : State} (h : nW s) : va_Nw (Cond.methodLinkNest "TurnCounts$Group" 52 ⟨"TurnCounts", "isWithin", "(III)Z"⟩ "TurnCounts") s := h.1
theorem nW_1 {s : State} (h : nW s) : va_Nw (Cond.methodLinkNest "TurnCounts$PatternTable" 81 ⟨"TurnCounts", "isWithin", "(III)Z"⟩ "TurnCounts") s := h.2.1
theorem nW_2 {s : State} (h : nW s) : va_Nw (Cond.methodLinkNest "TurnCounts$Setting" 39 ⟨"TurnCounts", "isWithin", "(III)Z"⟩ "TurnCounts") s := h.2.2
theorem tp_0 : Cond.selects "TurnCounts$Group" ⟨"TurnCounts$Group", "add", "(I)V"⟩ ⟨"TurnCounts$Group", "add", "(I)V"⟩ ∈ tg := List.mem_filter.mpr ⟨List.mem_append_left _ (List.mem_of_getElem? (i := 0) (by decide +kernel)), by decide +kernel⟩
theorem tp_1 : Cond.selects "TurnCounts" ⟨"TurnCounts", "forgetGroup", "()V"⟩ ⟨"TurnCounts", "forgetGroup", "()V"⟩ ∈ tg := List.mem_filter.mpr ⟨List.mem_append_left _ (List.mem_of_getElem? (i := 1) (by decide +kernel)), by decide +kernel⟩
theorem tp_2 : Cond.selects "TurnCounts$Group" ⟨"TurnCounts$Group", "addCopy", "(II)V"⟩ ⟨"TurnCounts$Group", "addCopy", "(II)V"⟩ ∈ tg := List.mem_filter.mpr ⟨List.mem_append_left _ (List.mem_of_getElem? (i := 2) (by decide +kernel)), by decide +kernel⟩
theorem tp_3 : Cond.selects "TurnCounts$TypeTable" ⟨"TurnCounts$TypeTable", "add", "(I)V"⟩ ⟨"TurnCounts$TypeTable", "add", "(I)V"⟩ ∈ tg := List.mem_filter.mpr ⟨List.mem_append_left _ (List.mem_of_getElem? (i := 3) (by decide +kernel)), by decide +kernel⟩
theorem tp_4 : Cond.selects "TurnCounts$TypeTable" ⟨"TurnCounts$TypeTable", "insert", "(II)V"⟩ ⟨"TurnCounts$TypeTable", "insert", "(II)V"⟩ ∈ tg := List.mem_filter.mpr ⟨List.mem_append_left _ (List.mem_of_getElem? (i := 4) (by decide +kernel)), by decide +kernel⟩
theorem tp_5 : Cond.selects "TurnCounts$PatternTable" ⟨"TurnCounts$PatternTable", "setPlaces", "(LTurnCounts$Setting;)V"⟩ ⟨"TurnCounts$PatternTable", "setPlaces", "(LTurnCounts$Setting;)V"⟩ ∈ tg := List.mem_filter.mpr ⟨List.mem_append_left _ (List.mem_of_getElem? (i := 5) (by decide +kernel)), by decide +kernel⟩
theorem tp_6 : Cond.selects "TurnCounts$PatternTable" ⟨"TurnCounts$PatternTable", "gather", "(ILTurnCounts$Group;)V"⟩ ⟨"TurnCounts$PatternTable", "gather", "(ILTurnCounts$Group;)V"⟩ ∈ tg := List.mem_filter.mpr ⟨List.mem_append_left _ (List.mem_of_getElem? (i := 6) (by decide +kernel)), by decide +kernel⟩
theorem tp_7 : Cond.selects "TurnCounts$PatternTable" ⟨"TurnCounts$PatternTable", "put", "(I)V"⟩ ⟨"TurnCounts$PatternTable", "put", "(I)V"⟩ ∈ tg := List.mem_filter.mpr ⟨List.mem_append_left _ (List.mem_of_getElem? (i := 7) (by decide +kernel)), by decide +kernel⟩
theorem tp_8 : Cond.selects "TurnCounts$PatternTable" ⟨"TurnCounts$PatternTable", "turned", "(II)I"⟩ ⟨"TurnCounts$PatternTable", "turned", "(II)I"⟩ ∈ tg := List.mem_filter.mpr ⟨List.mem_append_left _ (List.mem_of_getElem? (i := 8) (by decide +kernel)), by decide +kernel⟩
theorem tp_9 : Cond.selects "TurnCounts$Setting" ⟨"TurnCounts$Setting", "isReadable", "(I)Z"⟩ ⟨"TurnCounts$Setting", "isReadable", "(I)Z"⟩ ∈ tg := List.mem_filter.mpr ⟨List.mem_append_left _ (List.mem_of_getElem? (i := 9) (by decide +kernel)), by decide +kernel⟩
theorem tp_10 : Cond.selects "TurnCounts" ⟨"TurnCounts", "isNumber", "(I)Z"⟩ ⟨"TurnCounts", "isNumber", "(I)Z"⟩ ∈ tg := List.mem_filter.mpr ⟨List.mem_append_left _ (List.mem_of_getElem? (i := 10) (by decide +kernel)), by decide +kernel⟩
theorem tp_11 : Cond.selects "TurnCountsModel" ⟨"TurnCountsModel", "beginGroup", "()V"⟩ ⟨"TurnCountsModel", "beginGroup", "()V"⟩ ∈ tg := List.mem_filter.mpr ⟨List.mem_append_left _ (List.mem_of_getElem? (i := 11) (by decide +kernel)), by decide +kernel⟩
theorem tp_12 : Cond.selects "TurnCountsModel" ⟨"TurnCountsModel", "closeGroup", "()V"⟩ ⟨"TurnCountsModel", "closeGroup", "()V"⟩ ∈ tg := List.mem_filter.mpr ⟨List.mem_append_left _ (List.mem_of_getElem? (i := 12) (by decide +kernel)), by decide +kernel⟩
theorem tp_13 : Cond.selects "TurnCountsModel" ⟨"TurnCountsModel", "layStill", "()V"⟩ ⟨"TurnCountsModel", "layStill", "()V"⟩ ∈ tg := List.mem_filter.mpr ⟨List.mem_append_left _ (List.mem_of_getElem? (i := 13) (by decide +kernel)), by decide +kernel⟩
theorem tp_14 : Cond.selects "TurnCountsModel" ⟨"TurnCountsModel", "many", "()I"⟩ ⟨"TurnCountsModel", "many", "()I"⟩ ∈ tg := List.mem_filter.mpr ⟨List.mem_append_left _ (List.mem_of_getElem? (i := 14) (by decide +kernel)), by decide +kernel⟩
theorem tp_15 : Cond.selects "TurnCountsModel" ⟨"TurnCountsModel", "rank", "()I"⟩ ⟨"TurnCountsModel", "rank", "()I"⟩ ∈ tg := List.mem_filter.mpr ⟨List.mem_append_left _ (List.mem_of_getElem? (i := 15) (by decide +kernel)), by decide +kernel⟩
theorem tp_16 : Cond.selects "TurnCountsModel" ⟨"TurnCountsModel", "meet", "(I)V"⟩ ⟨"TurnCountsModel", "meet", "(I)V"⟩ ∈ tg := List.mem_filter.mpr ⟨List.mem_append_left _ (List.mem_of_getElem? (i := 16) (by decide +kernel)), by decide +kernel⟩
theorem tp_17 : Cond.selects "TurnCountsModel" ⟨"TurnCountsModel", "layRank", "(I)V"⟩ ⟨"TurnCountsModel", "layRank", "(I)V"⟩ ∈ tg := List.mem_filter.mpr ⟨List.mem_append_left _ (List.mem_of_getElem? (i := 17) (by decide +kernel)), by decide +kernel⟩
theorem tp_18 : Cond.selects "TurnCountsModel" ⟨"TurnCountsModel", "layTurns", "()V"⟩ ⟨"TurnCountsModel", "layTurns", "()V"⟩ ∈ tg := List.mem_filter.mpr ⟨List.mem_append_left _ (List.mem_of_getElem? (i := 18) (by decide +kernel)), by decide +kernel⟩
theorem tp_19 : Cond.selects "TurnCountsModel" ⟨"TurnCountsModel", "addKind", "(IIII)V"⟩ ⟨"TurnCountsModel", "addKind", "(IIII)V"⟩ ∈ tg := List.mem_filter.mpr ⟨List.mem_append_left _ (List.mem_of_getElem? (i := 19) (by decide +kernel)), by decide +kernel⟩
theorem tp_20 : Cond.selects "TurnCountsModel" ⟨"TurnCountsModel", "addRound", "(III)V"⟩ ⟨"TurnCountsModel", "addRound", "(III)V"⟩ ∈ tg := List.mem_filter.mpr ⟨List.mem_append_left _ (List.mem_of_getElem? (i := 20) (by decide +kernel)), by decide +kernel⟩
theorem tp_21 : Cond.selects "TurnCountsModel" ⟨"TurnCountsModel", "bring", "(IIII)V"⟩ ⟨"TurnCountsModel", "bring", "(IIII)V"⟩ ∈ tg := List.mem_filter.mpr ⟨List.mem_append_left _ (List.mem_of_getElem? (i := 21) (by decide +kernel)), by decide +kernel⟩
theorem tp_22 : Cond.selects "TurnCountsModel" ⟨"TurnCountsModel", "addMaker", "()V"⟩ ⟨"TurnCountsModel", "addMaker", "()V"⟩ ∈ tg := List.mem_filter.mpr ⟨List.mem_append_left _ (List.mem_of_getElem? (i := 22) (by decide +kernel)), by decide +kernel⟩
theorem tp_23 : Cond.selects "TurnCountsModel" ⟨"TurnCountsModel", "addFlip", "(III)V"⟩ ⟨"TurnCountsModel", "addFlip", "(III)V"⟩ ∈ tg := List.mem_filter.mpr ⟨List.mem_append_left _ (List.mem_of_getElem? (i := 23) (by decide +kernel)), by decide +kernel⟩
theorem tp_24 : Cond.selects "TurnCountsModel" ⟨"TurnCountsModel", "addNext", "(IIII)V"⟩ ⟨"TurnCountsModel", "addNext", "(IIII)V"⟩ ∈ tg := List.mem_filter.mpr ⟨List.mem_append_left _ (List.mem_of_getElem? (i := 24) (by decide +kernel)), by decide +kernel⟩
theorem tp_25 : Cond.selects "TurnCountsModel" ⟨"TurnCountsModel", "layPad", "()Z"⟩ ⟨"TurnCountsModel", "layPad", "()Z"⟩ ∈ tg := List.mem_filter.mpr ⟨List.mem_append_left _ (List.mem_of_getElem? (i := 25) (by decide +kernel)), by decide +kernel⟩
theorem tp_26 : Cond.selects "TurnCountsModel" ⟨"TurnCountsModel", "typeOfRow", "()I"⟩ ⟨"TurnCountsModel", "typeOfRow", "()I"⟩ ∈ tg := List.mem_filter.mpr ⟨List.mem_append_left _ (List.mem_of_getElem? (i := 26) (by decide +kernel)), by decide +kernel⟩
theorem tp_27 : Cond.selects "TurnCountsModel" ⟨"TurnCountsModel", "layTypes", "()V"⟩ ⟨"TurnCountsModel", "layTypes", "()V"⟩ ∈ tg := List.mem_filter.mpr ⟨List.mem_append_left _ (List.mem_of_getElem? (i := 27) (by decide +kernel)), by decide +kernel⟩
theorem tp_28 : Cond.selects "TurnCountsModel" ⟨"TurnCountsModel", "layTurn", "(I)V"⟩ ⟨"TurnCountsModel", "layTurn", "(I)V"⟩ ∈ tg := List.mem_filter.mpr ⟨List.mem_append_left _ (List.mem_of_getElem? (i := 28) (by decide +kernel)), by decide +kernel⟩
theorem tp_29 : Cond.selects "TurnCountsModel" ⟨"TurnCountsModel", "addType", "(I)V"⟩ ⟨"TurnCountsModel", "addType", "(I)V"⟩ ∈ tg := List.mem_filter.mpr ⟨List.mem_append_left _ (List.mem_of_getElem? (i := 29) (by decide +kernel)), by decide +kernel⟩
theorem tp_30 : Cond.selects "TurnCountsModel" ⟨"TurnCountsModel", "isPoint", "(I)Z"⟩ ⟨"TurnCountsModel", "isPoint", "(I)Z"⟩ ∈ tg := List.mem_filter.mpr ⟨List.mem_append_left _ (List.mem_of_getElem? (i := 30) (by decide +kernel)), by decide +kernel⟩
theorem tp_31 : Cond.selects "TurnCountsModel" ⟨"TurnCountsModel", "layPatterns", "()V"⟩ ⟨"TurnCountsModel", "layPatterns", "()V"⟩ ∈ tg := List.mem_filter.mpr ⟨List.mem_append_left _ (List.mem_of_getElem? (i := 31) (by decide +kernel)), by decide +kernel⟩
theorem tp_32 : Cond.selects "TurnCountsModel" ⟨"TurnCountsModel", "layWorths", "()V"⟩ ⟨"TurnCountsModel", "layWorths", "()V"⟩ ∈ tg := List.mem_filter.mpr ⟨List.mem_append_left _ (List.mem_of_getElem? (i := 32) (by decide +kernel)), by decide +kernel⟩
theorem tp_33 : Cond.selects "TurnCountsModel" ⟨"TurnCountsModel", "strike", "(I)V"⟩ ⟨"TurnCountsModel", "strike", "(I)V"⟩ ∈ tg := List.mem_filter.mpr ⟨List.mem_append_left _ (List.mem_of_getElem? (i := 33) (by decide +kernel)), by decide +kernel⟩
theorem tp_34 : Cond.selects "TurnCountsModel" ⟨"TurnCountsModel", "layColours", "(I)V"⟩ ⟨"TurnCountsModel", "layColours", "(I)V"⟩ ∈ tg := List.mem_filter.mpr ⟨List.mem_append_left _ (List.mem_of_getElem? (i := 34) (by decide +kernel)), by decide +kernel⟩
theorem tp_35 : Cond.selects "TurnCountsModel" ⟨"TurnCountsModel", "turned", "(I)I"⟩ ⟨"TurnCountsModel", "turned", "(I)I"⟩ ∈ tg := List.mem_filter.mpr ⟨List.mem_append_left _ (List.mem_of_getElem? (i := 35) (by decide +kernel)), by decide +kernel⟩
theorem tp_36 : Cond.selects "TurnCountsModel" ⟨"TurnCountsModel", "weightOf", "(I)I"⟩ ⟨"TurnCountsModel", "weightOf", "(I)I"⟩ ∈ tg := List.mem_filter.mpr ⟨List.mem_append_left _ (List.mem_of_getElem? (i := 36) (by decide +kernel)), by decide +kernel⟩
theorem tp_37 : Cond.selects "TurnCountsModel" ⟨"TurnCountsModel", "twin", "(I)I"⟩ ⟨"TurnCountsModel", "twin", "(I)I"⟩ ∈ tg := List.mem_filter.mpr ⟨List.mem_append_left _ (List.mem_of_getElem? (i := 37) (by decide +kernel)), by decide +kernel⟩
theorem tp_38 : Cond.selects "TurnCountsModel" ⟨"TurnCountsModel", "mirrored", "(I)I"⟩ ⟨"TurnCountsModel", "mirrored", "(I)I"⟩ ∈ tg := List.mem_filter.mpr ⟨List.mem_append_left _ (List.mem_of_getElem? (i := 38) (by decide +kernel)), by decide +kernel⟩
theorem tp_39 : Cond.selects "TurnCountsModel" ⟨"TurnCountsModel", "coloursOf", "(I)I"⟩ ⟨"TurnCountsModel", "coloursOf", "(I)I"⟩ ∈ tg := List.mem_filter.mpr ⟨List.mem_append_left _ (List.mem_of_getElem? (i := 39) (by decide +kernel)), by decide +kernel⟩
theorem tp_40 : Cond.selects "TurnCountsModel" ⟨"TurnCountsModel", "isNumber", "(I)Z"⟩ ⟨"TurnCountsModel", "isNumber", "(I)Z"⟩ ∈ tg := List.mem_filter.mpr ⟨List.mem_append_left _ (List.mem_of_getElem? (i := 40) (by decide +kernel)), by decide +kernel⟩
theorem tp_41 : Cond.selects "TurnCountsModel" ⟨"TurnCountsModel", "isOf", "(II)Z"⟩ ⟨"TurnCountsModel", "isOf", "(II)Z"⟩ ∈ tg := List.mem_filter.mpr ⟨List.mem_append_left _ (List.mem_of_getElem? (i := 41) (by decide +kernel)), by decide +kernel⟩
